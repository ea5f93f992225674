-- the class: rows that change, all else as it was
def FrC (P : Nat → Prop) (μ μ' : Mm) : Prop := ∀ q : Ky, ¬ (q.1 = 12 ∧ P q.2) → μ' q = μ q
theorem FrC.rf {P : Nat → Prop} {μ : Mm} : FrC P μ μ := fun _ _ => rfl
theorem FrC.tr {P : Nat → Prop} {μ a b : Mm} (h : FrC P μ a) (h2 : FrC P a b) : FrC P μ b := fun q hq => (h2 q hq).trans (h q hq)
theorem FrC.mr {P : Nat → Prop} {μ a : Mm} {c : Nat} {f : Nat → Int32} (h : FrC P μ a) (hc : P c) : FrC P μ (mrow a (12, c) f) := fun q hq => by
  have hne : q ≠ (12, c) := fun e => hq (by rw [e]; exact ⟨rfl, hc⟩)
  rw [mrow_ne hne]
  exact h q hq
theorem FrC.mono {P P' : Nat → Prop} {μ a : Mm} (h : FrC P μ a) (hs : ∀ c, P c → P' c) : FrC P' μ a := fun q hq => h q (fun x => hq ⟨x.1, hs _ x.2⟩)
theorem FrC.st {P : Nat → Prop} {μ a : Mm} (h : FrC P μ a) {k j : Nat} (hk : k ≠ 12) : a (k, j) = μ (k, j) := h (k, j) (fun x => hk x.1)
theorem FrC.ce {P : Nat → Prop} {μ a : Mm} (h : FrC P μ a) {c : Nat} (hc : ¬ P c) : a (12, c) = μ (12, c) := h (12, c) (fun x => hc x.2)
theorem CS.fr {ln : Nat → Nat} {μ a : Mm} {j V n N w0 : Nat} {r : Nat → Int32} {P : Nat → Prop} (h : CS ln μ j V n N w0 r) (hF : FrC P μ a) (hP : ∀ i, i < 4 → ¬ P (15 + 5 * j + i)) : CS ln a j V n N w0 r := by
  unfold CS at *
  rw [hF.st (by omega), hF.ce (hP 0 (by omega)), hF.ce (hP 1 (by omega)), hF.ce (hP 2 (by omega)), hF.ce (hP 3 (by omega))]
  exact h
theorem CS.stay {ln : Nat → Nat} {μ : Mm} {j V n N w0 : Nat} {r : Nat → Int32} (h : CS ln μ j V n N w0 r) : ∀ w, w < N → μ (12, 15 + 5 * j + 2) w = bI (lf r w) := fun w hw => by
  rw [h.2.2.2.2.1 w hw, h.1.hl hw]
theorem CS.stl {ln : Nat → Nat} {μ : Mm} {j V n N w0 : Nat} {r : Nat → Int32} (h : CS ln μ j V n N w0 r) : N ≤ ln (15 + 5 * j + 2) ∧ ln (15 + 5 * j + 2) < 2147483648 := ⟨h.2.2.1.1.2.2.1, h.2.2.1.2 2 (by omega)⟩
def anyN : Nat → (Nat → Bool) → Bool
  | 0, _ => false
  | k + 1, f => anyN k f || f k
theorem anyN_iff {n : Nat} {f : Nat → Bool} : anyN n f = true ↔ ∃ k, k < n ∧ f k = true := by
  induction n with
  | zero => simp [anyN]
  | succ n ih =>
    rw [anyN, Bool.or_eq_true, ih]
    constructor
    · rintro (⟨k, h1, h2⟩ | h)
      · exact ⟨k, by omega, h2⟩
      · exact ⟨n, by omega, h⟩
    · rintro ⟨k, h1, h2⟩
      by_cases e : k = n
      · subst e; exact Or.inr h2
      · exact Or.inl ⟨k, by omega, h2⟩
section CLSB
variable {sh : Sh} {ln : Nat → Nat} {μ : Mm} {j V n N w0 : Nat} {r : Nat → Int32}
theorem k_spot (h : CS ln μ j V n N w0 r) (hL : LN ln) {c : Nat} {S : Nat → Bool} (hc : N ≤ ln c ∧ ln c < 2147483648) (hc2 : c ≠ 2) (hS : ∀ w, w < N → μ (12, c) w = bI (S w)) {p q : Nat} (hp : p < n) (hq : q < n) :
    ∃ R, f_X4_spot sh ln j c μ (nI p) (nI q) = some (mrow μ (12, 2) R) ∧ ∀ k, k < N → R k = nI (poss S (lab r p) (fig V n q) N k) := by
  have hb := h.1.b
  have hl2 : ln 2 = 512 := hL.2.2.1
  have hh : ∃ x, f_X4_spot sh ln j c μ (nI p) (nI q) = some x ∧ ∃ R, x = mrow μ (12, 2) R ∧ ∀ k, k < N → R k = nI (poss S (lab r p) (fig V n q) N k) := by
    rw [f_X4_spot, h.c2, show (0 : Int32) = nI 0 from rfl, k_fill (by omega) (by omega), Option.bind_some]
    refine Wh_inv1 N (fun k s => ∃ R, s = (mrow μ (12, 2) R, nI k) ∧ ∀ i, i < N → R i = nI (poss S (lab r p) (fig V n q) k i)) _ ⟨_, rfl, fun i hi => by rw [if_pos hi, poss_0]⟩ ?_ ?_
    · rintro k _ hk ⟨R, rfl, hR⟩
      have h' := h.rowS (a := 12) (b := 2) R (by omega) (by omega)
      have hl := (h.1.hb hp hk).2
      have hf := fig_lt hb.1 n q k
      have hRl := hR (lab r p k) hl
      have e1 : f_X1_at sh ln c (mrow μ (12, 2) R) (nI k) = some (bI (S k)) := by rw [k_at (by omega) hc.2, mrow_neB (by omega), hS k hk]
      by_cases hL : S k = true
      · refine ⟨(mrow μ (12, 2) (upd R (lab r p k) (nI (poss S (lab r p) (fig V n q) k (lab r p k) ||| 2 ^ fig V n q k))), nI (k + 1)), ?_, _, rfl, ?_⟩
        · show f_X4_spot_L15 sh ln j c (nI p) (nI q) (mrow μ (12, 2) R) (nI k) = _
          have e2 : f_X1_addBits sh ln 2 (mrow μ (12, 2) R) (nI (lab r p k)) (nI (2 ^ fig V n q k)) = some (mrow μ (12, 2) (upd R (lab r p k) (nI (poss S (lab r p) (fig V n q) k (lab r p k) ||| 2 ^ fig V n q k)))) := by
            rw [k_addBits (by omega) (by omega), mrow_self, mrow_mrow, hRl, q_or]
          simp (disch := omega) only [Option.bind_some, Option.map_some, Option.bind_none, q_lit, nI_add, pk_mul, q_sub, q_addn, q_cl, q_le, q_lt, q_eq, q_ck, q_cd, q_cb0, q_cb1, q_div, q_rem, q_shl1, q_shr, q_and, q_or, q_tb, if_pos, if_neg, if_true, if_false, not_true, not_false_iff, eq_self, Bool.true_eq_false, Bool.false_eq_true, q_bI0, q_bI1, q_cbI, Nat.or_zero, mst_row, mrow_neA, mrow_neB, mrow_self, q_upd, f_X4_spot_L15, h'.c2, e1, hL, k_group h' hp hk, k_figure h' hq hk, e2]
        · intro i hi
          rw [q_upd, poss_s]
          by_cases e : i = lab r p k
          · subst e; simp [hL]
          · simp [e, Ne.symm e, hR i hi]
      · have hL := Bool.not_eq_true _ ▸ hL
        refine ⟨(mrow μ (12, 2) R, nI (k + 1)), ?_, _, rfl, ?_⟩
        · show f_X4_spot_L15 sh ln j c (nI p) (nI q) (mrow μ (12, 2) R) (nI k) = _
          simp (disch := omega) only [Option.bind_some, Option.map_some, Option.bind_none, q_lit, nI_add, pk_mul, q_sub, q_addn, q_cl, q_le, q_lt, q_eq, q_ck, q_cd, q_cb0, q_cb1, q_div, q_rem, q_shl1, q_shr, q_and, q_or, q_tb, if_pos, if_neg, if_true, if_false, not_true, not_false_iff, eq_self, Bool.true_eq_false, Bool.false_eq_true, q_bI0, q_bI1, q_cbI, Nat.or_zero, mst_row, mrow_neA, mrow_neB, mrow_self, q_upd, f_X4_spot_L15, h'.c2, e1, hL]
        · intro i hi
          rw [poss_s, hR i hi]
          simp [hL]
    · rintro _ ⟨R, rfl, hR⟩
      have h' := h.rowS (a := 12) (b := 2) R (by omega) (by omega)
      refine ⟨_, ?_, R, rfl, hR⟩
      show f_X4_spot_L15 sh ln j c (nI p) (nI q) (mrow μ (12, 2) R) (nI N) = _
      simp (disch := omega) only [Option.bind_some, Option.map_some, Option.bind_none, q_lit, nI_add, pk_mul, q_sub, q_addn, q_cl, q_le, q_lt, q_eq, q_ck, q_cd, q_cb0, q_cb1, q_div, q_rem, q_shl1, q_shr, q_and, q_or, q_tb, if_pos, if_neg, if_true, if_false, not_true, not_false_iff, eq_self, Bool.true_eq_false, Bool.false_eq_true, q_bI0, q_bI1, q_cbI, Nat.or_zero, mst_row, mrow_neA, mrow_neB, mrow_self, q_upd, f_X4_spot_L15, h'.c2, Nat.le_refl]
  obtain ⟨_, e, R, rfl, hR⟩ := hh
  exact ⟨R, e, hR⟩
theorem k_spotted (h : CS ln μ j V n N w0 r) (hL : LN ln) {p w : Nat} (hp : p < n) (hw : w < N) : f_X4_spotted sh ln j μ (nI p) (nI w) = some (μ (12, 2) (lab r p w)) := by
  have hb := h.1.b
  have hl := (h.1.hb hp hw).2
  have hl2 : ln 2 = 512 := hL.2.2.1
  rw [f_X4_spotted, k_group h hp hw, Option.bind_some, k_at (by omega) (by omega), Option.bind_some]
theorem k_many (h : CS ln μ j V n N w0 r) {w v : Nat} (hw : w < N) (hv2 : v < 2147483648) : f_X6_many sh ln j μ (nI w) (nI v) = some (nI (hv V n v w n)) := by
  have hb := h.1.b
  unfold f_X6_many
  refine Wh_it n (fun k => (nI (hv V n v w k), nI k)) rfl (fun k hk => ?_) ?_
  · show f_X6_many_L5 sh ln j (nI w) (nI v) μ (nI (hv V n v w k)) (nI k) = some (.inl (nI (hv V n v w k + (if fig V n k w = v then 1 else 0)), nI (k + 1)))
    have hf := fig_lt hb.1 n k w
    by_cases c : fig V n k w = v
    · simp (disch := omega) only [Option.bind_some, Option.map_some, Option.bind_none, q_lit, nI_add, pk_mul, q_sub, q_addn, q_cl, q_le, q_lt, q_eq, q_ck, q_cd, q_cb0, q_cb1, q_div, q_rem, q_shl1, q_shr, q_and, q_or, q_tb, if_pos, if_neg, if_true, if_false, not_true, not_false_iff, eq_self, Bool.true_eq_false, Bool.false_eq_true, q_bI0, q_bI1, q_cbI, Nat.or_zero, mst_row, mrow_neA, mrow_neB, mrow_self, q_upd, f_X6_many_L5, h.c1, k_figure h hk hw, c]
    · simp (disch := omega) only [Option.bind_some, Option.map_some, Option.bind_none, q_lit, nI_add, pk_mul, q_sub, q_addn, q_cl, q_le, q_lt, q_eq, q_ck, q_cd, q_cb0, q_cb1, q_div, q_rem, q_shl1, q_shr, q_and, q_or, q_tb, if_pos, if_neg, if_true, if_false, not_true, not_false_iff, eq_self, Bool.true_eq_false, Bool.false_eq_true, q_bI0, q_bI1, q_cbI, Nat.or_zero, mst_row, mrow_neA, mrow_neB, mrow_self, q_upd, f_X6_many_L5, h.c1, k_figure h hk hw, c, Nat.add_zero]
  · show f_X6_many_L5 sh ln j (nI w) (nI v) μ (nI (hv V n v w n)) (nI n) = _
    simp (disch := omega) only [Option.bind_some, Option.map_some, Option.bind_none, q_lit, nI_add, pk_mul, q_sub, q_addn, q_cl, q_le, q_lt, q_eq, q_ck, q_cd, q_cb0, q_cb1, q_div, q_rem, q_shl1, q_shr, q_and, q_or, q_tb, if_pos, if_neg, if_true, if_false, not_true, not_false_iff, eq_self, Bool.true_eq_false, Bool.false_eq_true, q_bI0, q_bI1, q_cbI, Nat.or_zero, mst_row, mrow_neA, mrow_neB, mrow_self, q_upd, f_X6_many_L5, h.c1, Nat.le_refl]
/-- a loop that puts an answer for each world -/
theorem k_says {f : Mm × Int32 → Option ((Mm × Int32) ⊕ Mm)} {μ : Mm} (N : Nat) (g : Nat → Int32) (hs : ∀ k C, k < N → f (mrow μ (12, 4) C, nI k) = some (.inl (mrow μ (12, 4) (upd C k (g k)), nI (k + 1)))) (he : ∀ C, f (mrow μ (12, 4) C, nI N) = some (.inr (mrow μ (12, 4) C))) :
    ∃ C, Wh f (μ, nI 0) = some (mrow μ (12, 4) C) ∧ ∀ w, w < N → C w = g w := by
  have hh : ∃ x, Wh f (μ, nI 0) = some x ∧ ∃ C, x = mrow μ (12, 4) C ∧ ∀ w, w < N → C w = g w := by
    refine Wh_inv1 N (fun k s => ∃ C, s = (mrow μ (12, 4) C, nI k) ∧ ∀ w, w < k → C w = g w) _ ⟨μ (12, 4), by rw [mrow_id], fun i hi => by omega⟩ ?_ ?_
    · rintro k _ hk ⟨C, rfl, hC⟩
      refine ⟨_, hs k C hk, _, rfl, fun w hw => ?_⟩
      rw [q_upd]
      by_cases e : w = k
      · subst e; rw [if_pos rfl]
      · rw [if_neg e]; exact hC w (by omega)
    · rintro _ ⟨C, rfl, hC⟩
      exact ⟨_, he C, C, rfl, hC⟩
  obtain ⟨_, e, C, rfl, hC⟩ := hh
  exact ⟨C, e, hC⟩
theorem k_put4 (hL : LN ln) {μ : Mm} {C : Nat → Int32} {k : Nat} {v : Int32} (hk : k < 512) : f_X1_put sh ln 4 (mrow μ (12, 4) C) (nI k) v = some (mrow μ (12, 4) (upd C k v)) := by
  have hl : ln 4 = 512 := hL.2.2.2.2.1
  rw [k_put (by omega) (by omega), mrow_self, mrow_mrow]
theorem k_sayNotice (h : CS ln μ j V n N w0 r) (hL : LN ln) {p : Nat} (hp : p < n) : ∃ C, f_X4_sayNotice sh ln j μ (nI p) = some (mrow μ (12, 4) C) ∧ ∀ w, w < N → C w = nI (fig V n p w) := by
  have hb := h.1.b
  refine k_says N (fun w => nI (fig V n p w)) (fun k C hk => ?_) (fun C => ?_)
  · have h' := h.rowS (a := 12) (b := 4) C (by omega) (by omega)
    simp (disch := omega) only [Option.bind_some, Option.map_some, Option.bind_none, q_lit, nI_add, pk_mul, q_sub, q_addn, q_cl, q_le, q_lt, q_eq, q_ck, q_cd, q_cb0, q_cb1, q_div, q_rem, q_shl1, q_shr, q_and, q_or, q_tb, if_pos, if_neg, if_true, if_false, not_true, not_false_iff, eq_self, Bool.true_eq_false, Bool.false_eq_true, q_bI0, q_bI1, q_cbI, Nat.or_zero, mst_row, mrow_neA, mrow_neB, mrow_self, q_upd, f_X4_sayNotice_L2, h'.c2, k_figure h' hp hk, k_put4 hL (show k < 512 by omega)]
  · have h' := h.rowS (a := 12) (b := 4) C (by omega) (by omega)
    simp (disch := omega) only [Option.bind_some, Option.map_some, Option.bind_none, q_lit, nI_add, pk_mul, q_sub, q_addn, q_cl, q_le, q_lt, q_eq, q_ck, q_cd, q_cb0, q_cb1, q_div, q_rem, q_shl1, q_shr, q_and, q_or, q_tb, if_pos, if_neg, if_true, if_false, not_true, not_false_iff, eq_self, Bool.true_eq_false, Bool.false_eq_true, q_bI0, q_bI1, q_cbI, Nat.or_zero, mst_row, mrow_neA, mrow_neB, mrow_self, q_upd, f_X4_sayNotice_L2, h'.c2, Nat.le_refl]
theorem k_sayMany (h : CS ln μ j V n N w0 r) (hL : LN ln) {m v : Nat} (hm : m < 2147483648) (hv2 : v < 2147483648) (b : Bool) : ∃ C, f_X4_sayWhetherMany sh ln j μ (nI m) (nI v) (bI b) = some (mrow μ (12, 4) C) ∧ ∀ w, w < N → C w = bI (if b = true then decide (m ≤ hv V n v w n) else decide (hv V n v w n ≤ m)) := by
  have hb := h.1.b
  refine k_says N (fun w => bI (if b = true then decide (m ≤ hv V n v w n) else decide (hv V n v w n ≤ m))) (fun k C hk => ?_) (fun C => ?_)
  · have h' := h.rowS (a := 12) (b := 4) C (by omega) (by omega)
    have hv3 := hv_le V n v k n
    cases b
    · by_cases c : m < hv V n v k n
      · have e : decide (hv V n v k n ≤ m) = false := decide_eq_false (by omega)
        simp (disch := omega) only [Option.bind_some, Option.map_some, Option.bind_none, q_lit, nI_add, pk_mul, q_sub, q_addn, q_cl, q_le, q_lt, q_eq, q_ck, q_cd, q_cb0, q_cb1, q_div, q_rem, q_shl1, q_shr, q_and, q_or, q_tb, if_pos, if_neg, if_true, if_false, not_true, not_false_iff, eq_self, Bool.true_eq_false, Bool.false_eq_true, q_bI0, q_bI1, q_cbI, Nat.or_zero, mst_row, mrow_neA, mrow_neB, mrow_self, q_upd, f_X4_sayWhetherMany_L3, h'.c2, k_many h' hk hv2, k_put4 hL (show k < 512 by omega), c, e, bI_f]
      · have e : decide (hv V n v k n ≤ m) = true := decide_eq_true (by omega)
        simp (disch := omega) only [Option.bind_some, Option.map_some, Option.bind_none, q_lit, nI_add, pk_mul, q_sub, q_addn, q_cl, q_le, q_lt, q_eq, q_ck, q_cd, q_cb0, q_cb1, q_div, q_rem, q_shl1, q_shr, q_and, q_or, q_tb, if_pos, if_neg, if_true, if_false, not_true, not_false_iff, eq_self, Bool.true_eq_false, Bool.false_eq_true, q_bI0, q_bI1, q_cbI, Nat.or_zero, mst_row, mrow_neA, mrow_neB, mrow_self, q_upd, f_X4_sayWhetherMany_L3, h'.c2, k_many h' hk hv2, k_put4 hL (show k < 512 by omega), c, e, bI_f, bI_t]
    · by_cases c : hv V n v k n < m
      · have e : decide (m ≤ hv V n v k n) = false := decide_eq_false (by omega)
        simp (disch := omega) only [Option.bind_some, Option.map_some, Option.bind_none, q_lit, nI_add, pk_mul, q_sub, q_addn, q_cl, q_le, q_lt, q_eq, q_ck, q_cd, q_cb0, q_cb1, q_div, q_rem, q_shl1, q_shr, q_and, q_or, q_tb, if_pos, if_neg, if_true, if_false, not_true, not_false_iff, eq_self, Bool.true_eq_false, Bool.false_eq_true, q_bI0, q_bI1, q_cbI, Nat.or_zero, mst_row, mrow_neA, mrow_neB, mrow_self, q_upd, f_X4_sayWhetherMany_L3, h'.c2, k_many h' hk hv2, k_put4 hL (show k < 512 by omega), c, e, bI_f, bI_t]
      · have e : decide (m ≤ hv V n v k n) = true := decide_eq_true (by omega)
        simp (disch := omega) only [Option.bind_some, Option.map_some, Option.bind_none, q_lit, nI_add, pk_mul, q_sub, q_addn, q_cl, q_le, q_lt, q_eq, q_ck, q_cd, q_cb0, q_cb1, q_div, q_rem, q_shl1, q_shr, q_and, q_or, q_tb, if_pos, if_neg, if_true, if_false, not_true, not_false_iff, eq_self, Bool.true_eq_false, Bool.false_eq_true, q_bI0, q_bI1, q_cbI, Nat.or_zero, mst_row, mrow_neA, mrow_neB, mrow_self, q_upd, f_X4_sayWhetherMany_L3, h'.c2, k_many h' hk hv2, k_put4 hL (show k < 512 by omega), c, e, bI_f, bI_t]
  · have h' := h.rowS (a := 12) (b := 4) C (by omega) (by omega)
    simp (disch := omega) only [Option.bind_some, Option.map_some, Option.bind_none, q_lit, nI_add, pk_mul, q_sub, q_addn, q_cl, q_le, q_lt, q_eq, q_ck, q_cd, q_cb0, q_cb1, q_div, q_rem, q_shl1, q_shr, q_and, q_or, q_tb, if_pos, if_neg, if_true, if_false, not_true, not_false_iff, eq_self, Bool.true_eq_false, Bool.false_eq_true, q_bI0, q_bI1, q_cbI, Nat.or_zero, mst_row, mrow_neA, mrow_neB, mrow_self, q_upd, f_X4_sayWhetherMany_L3, h'.c2, Nat.le_refl]
theorem k_sayAlike (h : CS ln μ j V n N w0 r) (hL : LN ln) {p q : Nat} (hp : p < n) (hq : q < n) (b : Bool) : ∃ C, f_X4_sayWhetherAlike sh ln j μ (nI p) (nI q) (bI b) = some (mrow μ (12, 4) C) ∧ ∀ w, w < N → C w = bI (decide (fig V n p w = fig V n q w) == b) := by
  have hb := h.1.b
  refine k_says N (fun w => bI (decide (fig V n p w = fig V n q w) == b)) (fun k C hk => ?_) (fun C => ?_)
  · have h' := h.rowS (a := 12) (b := 4) C (by omega) (by omega)
    have f1 := fig_lt hb.1 n p k
    have f2 := fig_lt hb.1 n q k
    have g1 : (nI 1 = bI b) = (b = true) := by rw [show (nI 1 = bI b) = (bI b = nI 1) from propext ⟨Eq.symm, Eq.symm⟩, q_bI1]
    have g0 : (nI 0 = bI b) = (b = false) := by rw [show (nI 0 = bI b) = (bI b = nI 0) from propext ⟨Eq.symm, Eq.symm⟩, q_bI0]
    by_cases c : fig V n p k = fig V n q k
    · cases b
      · simp (disch := omega) only [Option.bind_some, Option.map_some, Option.bind_none, q_lit, nI_add, pk_mul, q_sub, q_addn, q_cl, q_le, q_lt, q_eq, q_ck, q_cd, q_cb0, q_cb1, q_div, q_rem, q_shl1, q_shr, q_and, q_or, q_tb, if_pos, if_neg, if_true, if_false, not_true, not_false_iff, eq_self, Bool.true_eq_false, Bool.false_eq_true, q_bI0, q_bI1, q_cbI, Nat.or_zero, mst_row, mrow_neA, mrow_neB, mrow_self, q_upd, f_X4_sayWhetherAlike_L3, h'.c2, k_figure h' hp hk, k_figure h' hq hk, k_put4 hL (show k < 512 by omega), c, g1, g0]
        simp [bI]
      · simp (disch := omega) only [Option.bind_some, Option.map_some, Option.bind_none, q_lit, nI_add, pk_mul, q_sub, q_addn, q_cl, q_le, q_lt, q_eq, q_ck, q_cd, q_cb0, q_cb1, q_div, q_rem, q_shl1, q_shr, q_and, q_or, q_tb, if_pos, if_neg, if_true, if_false, not_true, not_false_iff, eq_self, Bool.true_eq_false, Bool.false_eq_true, q_bI0, q_bI1, q_cbI, Nat.or_zero, mst_row, mrow_neA, mrow_neB, mrow_self, q_upd, f_X4_sayWhetherAlike_L3, h'.c2, k_figure h' hp hk, k_figure h' hq hk, k_put4 hL (show k < 512 by omega), c, g1, g0]
        simp [bI]
    · cases b
      · simp (disch := omega) only [Option.bind_some, Option.map_some, Option.bind_none, q_lit, nI_add, pk_mul, q_sub, q_addn, q_cl, q_le, q_lt, q_eq, q_ck, q_cd, q_cb0, q_cb1, q_div, q_rem, q_shl1, q_shr, q_and, q_or, q_tb, if_pos, if_neg, if_true, if_false, not_true, not_false_iff, eq_self, Bool.true_eq_false, Bool.false_eq_true, q_bI0, q_bI1, q_cbI, Nat.or_zero, mst_row, mrow_neA, mrow_neB, mrow_self, q_upd, f_X4_sayWhetherAlike_L3, h'.c2, k_figure h' hp hk, k_figure h' hq hk, k_put4 hL (show k < 512 by omega), c, g1, g0]
        simp [bI]
      · simp (disch := omega) only [Option.bind_some, Option.map_some, Option.bind_none, q_lit, nI_add, pk_mul, q_sub, q_addn, q_cl, q_le, q_lt, q_eq, q_ck, q_cd, q_cb0, q_cb1, q_div, q_rem, q_shl1, q_shr, q_and, q_or, q_tb, if_pos, if_neg, if_true, if_false, not_true, not_false_iff, eq_self, Bool.true_eq_false, Bool.false_eq_true, q_bI0, q_bI1, q_cbI, Nat.or_zero, mst_row, mrow_neA, mrow_neB, mrow_self, q_upd, f_X4_sayWhetherAlike_L3, h'.c2, k_figure h' hp hk, k_figure h' hq hk, k_put4 hL (show k < 512 by omega), c, g1, g0]
        simp [bI]
  · have h' := h.rowS (a := 12) (b := 4) C (by omega) (by omega)
    simp (disch := omega) only [Option.bind_some, Option.map_some, Option.bind_none, q_lit, nI_add, pk_mul, q_sub, q_addn, q_cl, q_le, q_lt, q_eq, q_ck, q_cd, q_cb0, q_cb1, q_div, q_rem, q_shl1, q_shr, q_and, q_or, q_tb, if_pos, if_neg, if_true, if_false, not_true, not_false_iff, eq_self, Bool.true_eq_false, Bool.false_eq_true, q_bI0, q_bI1, q_cbI, Nat.or_zero, mst_row, mrow_neA, mrow_neB, mrow_self, q_upd, f_X4_sayWhetherAlike_L3, h'.c2, Nat.le_refl]
theorem k_saySure (h : CS ln μ j V n N w0 r) (hL : LN ln) {p : Nat} (hp : p < n) : ∃ R C, f_X4_sayWhetherSure sh ln j μ (nI p) = some (mrow (mrow μ (12, 2) R) (12, 4) C) ∧ ∀ w, w < N → C w = bI (suR r V n N p w) := by
  have hb := h.1.b
  obtain ⟨R, e, hR⟩ := k_spot (sh := sh) h hL h.stl (by omega) h.stay hp hp
  refine ⟨R, ?_⟩
  rw [f_X4_sayWhetherSure, e, Option.bind_some]
  refine k_says N (fun w => bI (suR r V n N p w)) (fun k C hk => ?_) (fun C => ?_)
  · have h' := (h.rowS (a := 12) (b := 2) R (by omega) (by omega)).rowS (a := 12) (b := 4) C (by omega) (by omega)
    have hl := (h.1.hb hp hk).2
    have hRl := hR (lab r p k) hl
    have h16 : poss (lf r) (lab r p) (fig V n p) N (lab r p k) < 16 := poss_16 ⟨hb.1, hb.2.1⟩
    have e2 : f_X4_spotted sh ln j (mrow (mrow μ (12, 2) R) (12, 4) C) (nI p) (nI k) = some (nI (poss (lf r) (lab r p) (fig V n p) N (lab r p k))) := by
      rw [k_spotted h' hL hp hk, mrow_neB (by omega), mrow_self, hRl]
    have hm1 := oo_m1 (show poss (lf r) (lab r p) (fig V n p) N (lab r p k) < 512 by omega)
    have hsu : suR r V n N p k = sur (poss (lf r) (lab r p) (fig V n p) N (lab r p k)) := rfl
    by_cases c : suR r V n N p k = true
    · simp (disch := omega) only [Option.bind_some, Option.map_some, Option.bind_none, q_lit, nI_add, pk_mul, q_sub, q_addn, q_cl, q_le, q_lt, q_eq, q_ck, q_cd, q_cb0, q_cb1, q_div, q_rem, q_shl1, q_shr, q_and, q_or, q_tb, if_pos, if_neg, if_true, if_false, not_true, not_false_iff, eq_self, Bool.true_eq_false, Bool.false_eq_true, q_bI0, q_bI1, q_cbI, Nat.or_zero, mst_row, mrow_neA, mrow_neB, mrow_self, q_upd, f_X4_sayWhetherSure_L13, h'.c2, e2, k_onlyOne (show poss (lf r) (lab r p) (fig V n p) N (lab r p k) < 512 by omega), hm1, ← hsu, c, k_put4 hL (show k < 512 by omega), bI_t]
    · have c := Bool.not_eq_true _ ▸ c
      simp (disch := omega) only [Option.bind_some, Option.map_some, Option.bind_none, q_lit, nI_add, pk_mul, q_sub, q_addn, q_cl, q_le, q_lt, q_eq, q_ck, q_cd, q_cb0, q_cb1, q_div, q_rem, q_shl1, q_shr, q_and, q_or, q_tb, if_pos, if_neg, if_true, if_false, not_true, not_false_iff, eq_self, Bool.true_eq_false, Bool.false_eq_true, q_bI0, q_bI1, q_cbI, Nat.or_zero, mst_row, mrow_neA, mrow_neB, mrow_self, q_upd, f_X4_sayWhetherSure_L13, h'.c2, e2, k_onlyOne (show poss (lf r) (lab r p) (fig V n p) N (lab r p k) < 512 by omega), hm1, ← hsu, c, k_put4 hL (show k < 512 by omega), bI_f]
  · have h' := (h.rowS (a := 12) (b := 2) R (by omega) (by omega)).rowS (a := 12) (b := 4) C (by omega) (by omega)
    simp (disch := omega) only [Option.bind_some, Option.map_some, Option.bind_none, q_lit, nI_add, pk_mul, q_sub, q_addn, q_cl, q_le, q_lt, q_eq, q_ck, q_cd, q_cb0, q_cb1, q_div, q_rem, q_shl1, q_shr, q_and, q_or, q_tb, if_pos, if_neg, if_true, if_false, not_true, not_false_iff, eq_self, Bool.true_eq_false, Bool.false_eq_true, q_bI0, q_bI1, q_cbI, Nat.or_zero, mst_row, mrow_neA, mrow_neB, mrow_self, q_upd, f_X4_sayWhetherSure_L13, h'.c2, Nat.le_refl]
theorem k_sayAnswer (h : CS ln μ j V n N w0 r) (hL : LN ln) {c : Nat} {S : Nat → Bool} (hc : N ≤ ln c ∧ ln c < 2147483648) (hc2 : c ≠ 2) (hS : ∀ w, w < N → μ (12, c) w = bI (S w)) {p q v : Nat} (hp : p < n) (hq : q < n) (hv : v < V) :
    ∃ R C, f_X4_sayAnswer sh ln j c μ (nI p) (nI q) (nI v) = some (mrow (mrow μ (12, 2) R) (12, 4) C) ∧ ∀ w, w < N → C w = nI (ans (poss S (lab r p) (fig V n q) N (lab r p w)) v) := by
  have hb := h.1.b
  obtain ⟨R, e, hR⟩ := k_spot (sh := sh) h hL hc hc2 hS hp hq
  refine ⟨R, ?_⟩
  have e0 : (1 : Int32) <<< (nI v &&& 31) = nI (2 ^ v) := by simp (disch := omega) only [Option.bind_some, Option.map_some, Option.bind_none, q_lit, nI_add, pk_mul, q_sub, q_addn, q_cl, q_le, q_lt, q_eq, q_ck, q_cd, q_cb0, q_cb1, q_div, q_rem, q_shl1, q_shr, q_and, q_or, q_tb, if_pos, if_neg, if_true, if_false, not_true, not_false_iff, eq_self, Bool.true_eq_false, Bool.false_eq_true, q_bI0, q_bI1, q_cbI, Nat.or_zero, mst_row, mrow_neA, mrow_neB, mrow_self, q_upd, ]
  rw [f_X4_sayAnswer, e, Option.bind_some, e0]
  refine k_says N (fun w => nI (ans (poss S (lab r p) (fig V n q) N (lab r p w)) v)) (fun k C hk => ?_) (fun C => ?_)
  · have h' := (h.rowS (a := 12) (b := 2) R (by omega) (by omega)).rowS (a := 12) (b := 4) C (by omega) (by omega)
    have hl := (h.1.hb hp hk).2
    have hRl := hR (lab r p k) hl
    obtain ⟨m, hm⟩ : ∃ m, m = poss S (lab r p) (fig V n q) N (lab r p k) := ⟨_, rfl⟩
    have h16 : poss S (lab r p) (fig V n q) N (lab r p k) < 16 := poss_16 ⟨hb.1, hb.2.1⟩
    have e2 : f_X4_spotted sh ln j (mrow (mrow μ (12, 2) R) (12, 4) C) (nI p) (nI k) = some (nI m) := by
      rw [k_spotted h' hL hp hk, mrow_neB (by omega), mrow_self, hRl, hm]
    have hp4 : 2 ^ v ≤ 2 ^ 4 := Nat.pow_le_pow_right (by decide) (by omega)
    rw [← hm] at h16
    rw [← hm]
    have hand : m &&& 2 ^ v ≤ m := Nat.and_le_left
    have htb : (m &&& 2 ^ v = 0) = (m.testBit v = false) := by
      apply propext
      constructor
      · intro e
        have : (m &&& 2 ^ v).testBit v = false := by rw [e]; simp
        rw [Nat.testBit_and] at this
        simpa using this
      · intro e
        apply Nat.eq_of_testBit_eq
        intro i
        rw [Nat.testBit_and, Nat.testBit_two_pow]
        by_cases hi : v = i
        · subst hi; simp [e]
        · simp [hi]
    by_cases c1 : m = 2 ^ v
    · have : ans m v = 1 := if_pos c1
      simp (disch := omega) only [Option.bind_some, Option.map_some, Option.bind_none, q_lit, nI_add, pk_mul, q_sub, q_addn, q_cl, q_le, q_lt, q_eq, q_ck, q_cd, q_cb0, q_cb1, q_div, q_rem, q_shl1, q_shr, q_and, q_or, q_tb, if_pos, if_neg, if_true, if_false, not_true, not_false_iff, eq_self, Bool.true_eq_false, Bool.false_eq_true, q_bI0, q_bI1, q_cbI, Nat.or_zero, mst_row, mrow_neA, mrow_neB, mrow_self, q_upd, f_X4_sayAnswer_L18, h'.c2, e2, c1, k_put4 hL (show k < 512 by omega)]
      rw [c1] at this
      rw [this]
    · by_cases c2 : m.testBit v = true
      · have : ans m v = 2 := by rw [ans, if_neg c1, if_pos c2]
        simp (disch := omega) only [Option.bind_some, Option.map_some, Option.bind_none, q_lit, nI_add, pk_mul, q_sub, q_addn, q_cl, q_le, q_lt, q_eq, q_ck, q_cd, q_cb0, q_cb1, q_div, q_rem, q_shl1, q_shr, q_and, q_or, q_tb, if_pos, if_neg, if_true, if_false, not_true, not_false_iff, eq_self, Bool.true_eq_false, Bool.false_eq_true, q_bI0, q_bI1, q_cbI, Nat.or_zero, mst_row, mrow_neA, mrow_neB, mrow_self, q_upd, f_X4_sayAnswer_L18, h'.c2, e2, c1, htb, c2, k_put4 hL (show k < 512 by omega), this]
      · have : ans m v = 0 := by rw [ans, if_neg c1, if_neg c2]
        have c2 := Bool.not_eq_true _ ▸ c2
        simp (disch := omega) only [Option.bind_some, Option.map_some, Option.bind_none, q_lit, nI_add, pk_mul, q_sub, q_addn, q_cl, q_le, q_lt, q_eq, q_ck, q_cd, q_cb0, q_cb1, q_div, q_rem, q_shl1, q_shr, q_and, q_or, q_tb, if_pos, if_neg, if_true, if_false, not_true, not_false_iff, eq_self, Bool.true_eq_false, Bool.false_eq_true, q_bI0, q_bI1, q_cbI, Nat.or_zero, mst_row, mrow_neA, mrow_neB, mrow_self, q_upd, f_X4_sayAnswer_L18, h'.c2, e2, c1, htb, c2, k_put4 hL (show k < 512 by omega), this]
  · have h' := (h.rowS (a := 12) (b := 2) R (by omega) (by omega)).rowS (a := 12) (b := 4) C (by omega) (by omega)
    simp (disch := omega) only [Option.bind_some, Option.map_some, Option.bind_none, q_lit, nI_add, pk_mul, q_sub, q_addn, q_cl, q_le, q_lt, q_eq, q_ck, q_cd, q_cb0, q_cb1, q_div, q_rem, q_shl1, q_shr, q_and, q_or, q_tb, if_pos, if_neg, if_true, if_false, not_true, not_false_iff, eq_self, Bool.true_eq_false, Bool.false_eq_true, q_bI0, q_bI1, q_cbI, Nat.or_zero, mst_row, mrow_neA, mrow_neB, mrow_self, q_upd, f_X4_sayAnswer_L18, h'.c2, Nat.le_refl]
theorem k_heed (hL : LN ln) (h2 : μ (13, j) 2 = nI N) (h3 : μ (13, j) 3 = nI w0) (hw0 : w0 < N) (hN : N ≤ 512) {c : Nat} {S : Nat → Bool} (hc : N ≤ ln c ∧ ln c < 2147483648) (hc4 : c ≠ 4) (hS : ∀ w, w < N → μ (12, c) w = bI (S w)) :
    ∃ R, f_X4_heed sh ln j c μ = some (bI (anyN N (fun w => S w && decide (¬ μ (12, 4) w = μ (12, 4) w0))), mrow μ (12, c) R) ∧ ∀ w, w < N → R w = bI (S w && decide (μ (12, 4) w = μ (12, 4) w0)) := by
  have hl : ln 4 = 512 := hL.2.2.2.2.1
  have hh : ∃ x, f_X4_heed sh ln j c μ = some x ∧ ∃ R, x = (bI (anyN N (fun w => S w && decide (¬ μ (12, 4) w = μ (12, 4) w0))), mrow μ (12, c) R) ∧ ∀ w, w < N → R w = bI (S w && decide (μ (12, 4) w = μ (12, 4) w0)) := by
    rw [f_X4_heed, h3, k_at (by omega) (by omega), Option.bind_some]
    refine Wh_inv1 N (fun k s => ∃ R, s = (mrow μ (12, c) R, bI (anyN k (fun w => S w && decide (¬ μ (12, 4) w = μ (12, 4) w0))), nI k) ∧ ∀ w, w < N → R w = bI (if w < k then S w && decide (μ (12, 4) w = μ (12, 4) w0) else S w)) _ ⟨μ (12, c), by rw [mrow_id]; rfl, fun w hw => by rw [if_neg (by omega)]; exact hS w hw⟩ ?_ ?_
    · rintro k _ hk ⟨R, rfl, hR⟩
      have e13 : mrow μ (12, c) R (13, j) 2 = nI N := by rw [mrow_neA (by omega)]; exact h2
      have e4 : f_X1_at sh ln 4 (mrow μ (12, c) R) (nI k) = some (μ (12, 4) k) := by rw [k_at (by omega) (by omega), mrow_neB hc4]
      have ec : f_X1_at sh ln c (mrow μ (12, c) R) (nI k) = some (bI (S k)) := by
        rw [k_at (by omega) hc.2, mrow_self, hR k hk, if_neg (by omega)]
      have ep : f_X1_put sh ln c (mrow μ (12, c) R) (nI k) (nI 0) = some (mrow μ (12, c) (upd R k (nI 0))) := by
        rw [k_put (by omega) hc.2, mrow_self, mrow_mrow]
      by_cases c1 : S k = true
      · by_cases c2 : μ (12, 4) k = μ (12, 4) w0
        · refine ⟨(mrow μ (12, c) R, bI (anyN k (fun w => S w && decide (¬ μ (12, 4) w = μ (12, 4) w0))), nI (k + 1)), ?_, R, ?_, ?_⟩
          · show f_X4_heed_L18 sh ln j c (μ (12, 4) w0) (mrow μ (12, c) R) (bI (anyN k (fun w => S w && decide (¬ μ (12, 4) w = μ (12, 4) w0)))) (nI k) = _
            simp (disch := omega) only [Option.bind_some, Option.map_some, Option.bind_none, q_lit, nI_add, pk_mul, q_sub, q_addn, q_cl, q_le, q_lt, q_eq, q_ck, q_cd, q_cb0, q_cb1, q_div, q_rem, q_shl1, q_shr, q_and, q_or, q_tb, if_pos, if_neg, if_true, if_false, not_true, not_false_iff, eq_self, Bool.true_eq_false, Bool.false_eq_true, q_bI0, q_bI1, q_cbI, Nat.or_zero, mst_row, mrow_neA, mrow_neB, mrow_self, q_upd, f_X4_heed_L18, e13, ec, e4, c1, c2]
          · rw [anyN]; simp [c2]
          · intro w hw
            rw [hR w hw]
            by_cases e : w = k
            · subst e; simp [c1, c2]
            · by_cases e2 : w < k
              · rw [if_pos e2, if_pos (by omega)]
              · rw [if_neg e2, if_neg (by omega)]
        · refine ⟨(mrow μ (12, c) (upd R k (nI 0)), nI 1, nI (k + 1)), ?_, upd R k (nI 0), ?_, ?_⟩
          · show f_X4_heed_L18 sh ln j c (μ (12, 4) w0) (mrow μ (12, c) R) (bI (anyN k (fun w => S w && decide (¬ μ (12, 4) w = μ (12, 4) w0)))) (nI k) = _
            simp (disch := omega) only [Option.bind_some, Option.map_some, Option.bind_none, q_lit, nI_add, pk_mul, q_sub, q_addn, q_cl, q_le, q_lt, q_eq, q_ck, q_cd, q_cb0, q_cb1, q_div, q_rem, q_shl1, q_shr, q_and, q_or, q_tb, if_pos, if_neg, if_true, if_false, not_true, not_false_iff, eq_self, Bool.true_eq_false, Bool.false_eq_true, q_bI0, q_bI1, q_cbI, Nat.or_zero, mst_row, mrow_neA, mrow_neB, mrow_self, q_upd, f_X4_heed_L18, e13, ec, e4, c1, c2, ep]
          · rw [anyN]; simp [c1, c2, bI_t]
          · intro w hw
            rw [q_upd]
            by_cases e : w = k
            · subst e; simp [c2, bI]
            · rw [if_neg e, hR w hw]
              by_cases e2 : w < k
              · rw [if_pos e2, if_pos (by omega)]
              · rw [if_neg e2, if_neg (by omega)]
      · have c1 := Bool.not_eq_true _ ▸ c1
        refine ⟨(mrow μ (12, c) R, bI (anyN k (fun w => S w && decide (¬ μ (12, 4) w = μ (12, 4) w0))), nI (k + 1)), ?_, R, ?_, ?_⟩
        · show f_X4_heed_L18 sh ln j c (μ (12, 4) w0) (mrow μ (12, c) R) (bI (anyN k (fun w => S w && decide (¬ μ (12, 4) w = μ (12, 4) w0)))) (nI k) = _
          simp (disch := omega) only [Option.bind_some, Option.map_some, Option.bind_none, q_lit, nI_add, pk_mul, q_sub, q_addn, q_cl, q_le, q_lt, q_eq, q_ck, q_cd, q_cb0, q_cb1, q_div, q_rem, q_shl1, q_shr, q_and, q_or, q_tb, if_pos, if_neg, if_true, if_false, not_true, not_false_iff, eq_self, Bool.true_eq_false, Bool.false_eq_true, q_bI0, q_bI1, q_cbI, Nat.or_zero, mst_row, mrow_neA, mrow_neB, mrow_self, q_upd, f_X4_heed_L18, e13, ec, c1]
        · rw [anyN]; simp [c1]
        · intro w hw
          rw [hR w hw]
          by_cases e : w = k
          · subst e; simp [c1]
          · by_cases e2 : w < k
            · rw [if_pos e2, if_pos (by omega)]
            · rw [if_neg e2, if_neg (by omega)]
    · rintro _ ⟨R, rfl, hR⟩
      have e13 : mrow μ (12, c) R (13, j) 2 = nI N := by rw [mrow_neA (by omega)]; exact h2
      refine ⟨_, ?_, R, rfl, fun w hw => by rw [hR w hw, if_pos hw]⟩
      show f_X4_heed_L18 sh ln j c (μ (12, 4) w0) (mrow μ (12, c) R) (bI (anyN N (fun w => S w && decide (¬ μ (12, 4) w = μ (12, 4) w0)))) (nI N) = _
      simp (disch := omega) only [Option.bind_some, Option.map_some, Option.bind_none, q_lit, nI_add, pk_mul, q_sub, q_addn, q_cl, q_le, q_lt, q_eq, q_ck, q_cd, q_cb0, q_cb1, q_div, q_rem, q_shl1, q_shr, q_and, q_or, q_tb, if_pos, if_neg, if_true, if_false, not_true, not_false_iff, eq_self, Bool.true_eq_false, Bool.false_eq_true, q_bI0, q_bI1, q_cbI, Nat.or_zero, mst_row, mrow_neA, mrow_neB, mrow_self, q_upd, f_X4_heed_L18, e13, Nat.le_refl]
  obtain ⟨_, e, R, rfl, hR⟩ := hh
  exact ⟨R, e, hR⟩
end CLSB
