-- the class: who is sure, marks told apart, looking
theorem CS.scr {ln : Nat → Nat} {μ a : Mm} {j V n N w0 : Nat} {r : Nat → Int32} (h : CS ln μ j V n N w0 r) (hF : FrC (fun c => c < 15) μ a) : CS ln a j V n N w0 r := h.fr hF (fun i hi => by omega)
/-- a State whose row of marks changes at one place -/
theorem CS.grp {ln : Nat → Nat} {μ : Mm} {j V n N w0 : Nat} {r : Nat → Int32} {o : Nat → Nat} {p k x : Nat} (h : CS ln μ j V n N w0 (rlr o p N r)) (hr : WF V n N w0 r) (hp : p < n) (hk : k < N) (ho : ∀ w, w < N → o w < N) (hx : x < N) :
    CS ln (mrow μ (12, 15 + 5 * j + 3) (upd (μ (12, 15 + 5 * j + 3)) (p * N + k) (nI x))) j V n N w0 (rlr (updN o k x) p N r) := by
  have hb := hr.b
  have hne : ∀ i, i < 20 + N → rlr (updN o k x) p N r i = rlr o p N r i := fun i hi => by rw [rlr_ne (by omega), rlr_ne (by omega)]
  refine ⟨rlr_WF hr hp (fun w hw => ?_), ?_, h.2.2.1, ?_, ?_, ?_⟩
  · rw [updN_ap]; split
    · exact hx
    · exact ho w hw
  · rw [mrow_neA (by omega)]; exact h.2.1
  · intro q hq
    rw [mrow_neB (by omega), mrow_neB (by omega), hne _ (by omega)]; exact h.2.2.2.1 q hq
  · intro w hw
    rw [mrow_neB (by omega), hne _ (by omega)]; exact h.2.2.2.2.1 w hw
  · intro q w hq hw
    rw [mrow_self, q_upd]
    by_cases e : q * N + w = p * N + k
    · have hqp : q = p := by
        rcases Nat.lt_trichotomy q p with h1 | h1 | h1
        · have := Nat.mul_le_mul_right N (show q + 1 ≤ p from h1)
          rw [Nat.succ_mul] at this
          omega
        · exact h1
        · have := Nat.mul_le_mul_right N (show p + 1 ≤ q from h1)
          rw [Nat.succ_mul] at this
          omega
      subst hqp
      have hwk : w = k := by omega
      subst hwk
      rw [if_pos rfl, rlr_at hw, updN_ap, if_pos rfl]
    · rw [if_neg e, h.2.2.2.2.2 q w hq hw]
      by_cases eq : q = p
      · subst eq
        rw [rlr_at hw, rlr_at hw, updN_ap, if_neg (fun z => e (by rw [z]))]
      · rw [rlr_ne (by omega), rlr_ne (by omega)]
/-- a State whose row of worlds left changes -/
theorem CS.drp {ln : Nat → Nat} {μ : Mm} {j V n N w0 : Nat} {r : Nat → Int32} {R c : Nat → Int32} (h : CS ln μ j V n N w0 r) (hR : ∀ w, w < N → R w = bI (lf r w && decide (c w = c w0))) :
    CS ln (mrow μ (12, 15 + 5 * j + 2) R) j V n N w0 (drp c N w0 r) := by
  have hb := h.1.b
  have hW := drp_WF c h.1
  refine ⟨hW, ?_, h.2.2.1, ?_, ?_, ?_⟩
  · rw [mrow_neA (by omega)]; exact h.2.1
  · intro q hq
    rw [mrow_neB (by omega), mrow_neB (by omega), drp_ne (by omega)]; exact h.2.2.2.1 q hq
  · intro w hw
    rw [mrow_self, hR w hw, hW.hl hw, drp_lf hw]
  · intro q w hq hw
    rw [mrow_neB (by omega), drp_ne (by omega)]; exact h.2.2.2.2.2 q w hq hw
section CLSC
variable {sh : Sh} {ln : Nat → Nat} {μ : Mm} {j V n N w0 : Nat} {r : Nat → Int32}
/-- who is sure, by a row of worlds that stay -/
def suS (S : Nat → Bool) (r : Nat → Int32) (V n N w m : Nat) : Nat := orN m (fun p => if sur (poss S (lab r p) (fig V n p) N (lab r p w)) = true then 2 ^ p else 0)
theorem suS_lf {r : Nat → Int32} {V n N w m : Nat} : suS (lf r) r V n N w m = suO r V n N w m := rfl
theorem k_sureBits (h : CS ln μ j V n N w0 r) {c : Nat} {S : Nat → Bool} (hc : N ≤ ln c ∧ ln c < 2147483648) (hS : ∀ w, w < N → μ (12, c) w = bI (S w)) : f_X4_sureBits sh ln j c μ = some (nI (suS S r V n N w0 n)) := by
  have hb := h.1.b
  unfold f_X4_sureBits
  refine Wh_it n (fun k => (nI (suS S r V n N w0 k), nI k)) rfl (fun k hk => ?_) ?_
  · show f_X4_sureBits_L5 sh ln j c μ (nI (suS S r V n N w0 k)) (nI k) = some (.inl (nI (suS S r V n N w0 k ||| (if sur (poss S (lab r k) (fig V n k) N (lab r k w0)) = true then 2 ^ k else 0)), nI (k + 1)))
    have h16 : poss S (lab r k) (fig V n k) N (lab r k w0) < 16 := poss_16 ⟨hb.1, hb.2.1⟩
    have hm1 := oo_m1 (show poss S (lab r k) (fig V n k) N (lab r k w0) < 512 by omega)
    by_cases c1 : sur (poss S (lab r k) (fig V n k) N (lab r k w0)) = true
    · simp (disch := omega) only [Option.bind_some, Option.map_some, Option.bind_none, q_lit, nI_add, pk_mul, q_sub, q_addn, q_cl, q_le, q_lt, q_eq, q_ck, q_cd, q_cb0, q_cb1, q_div, q_rem, q_shl1, q_shr, q_and, q_or, q_tb, if_pos, if_neg, if_true, if_false, not_true, not_false_iff, eq_self, Bool.true_eq_false, Bool.false_eq_true, q_bI0, q_bI1, q_cbI, Nat.or_zero, mst_row, mrow_neA, mrow_neB, mrow_self, q_upd, f_X4_sureBits_L5, h.c1, h.c3, k_possible h hc hS hk hk hb.2.2.2.2.2, k_onlyOne (show poss S (lab r k) (fig V n k) N (lab r k w0) < 512 by omega), hm1, c1]
    · have c1 := Bool.not_eq_true _ ▸ c1
      simp (disch := omega) only [Option.bind_some, Option.map_some, Option.bind_none, q_lit, nI_add, pk_mul, q_sub, q_addn, q_cl, q_le, q_lt, q_eq, q_ck, q_cd, q_cb0, q_cb1, q_div, q_rem, q_shl1, q_shr, q_and, q_or, q_tb, if_pos, if_neg, if_true, if_false, not_true, not_false_iff, eq_self, Bool.true_eq_false, Bool.false_eq_true, q_bI0, q_bI1, q_cbI, Nat.or_zero, mst_row, mrow_neA, mrow_neB, mrow_self, q_upd, f_X4_sureBits_L5, h.c1, h.c3, k_possible h hc hS hk hk hb.2.2.2.2.2, k_onlyOne (show poss S (lab r k) (fig V n k) N (lab r k w0) < 512 by omega), hm1, c1]
  · show f_X4_sureBits_L5 sh ln j c μ (nI (suS S r V n N w0 n)) (nI n) = _
    simp (disch := omega) only [Option.bind_some, Option.map_some, Option.bind_none, q_lit, nI_add, pk_mul, q_sub, q_addn, q_cl, q_le, q_lt, q_eq, q_ck, q_cd, q_cb0, q_cb1, q_div, q_rem, q_shl1, q_shr, q_and, q_or, q_tb, if_pos, if_neg, if_true, if_false, not_true, not_false_iff, eq_self, Bool.true_eq_false, Bool.false_eq_true, q_bI0, q_bI1, q_cbI, Nat.or_zero, mst_row, mrow_neA, mrow_neB, mrow_self, q_upd, f_X4_sureBits_L5, h.c1, Nat.le_refl]
theorem k_sureOnes (h : CS ln μ j V n N w0 r) : f_X4_sureBits sh ln j (15 + 5 * j + 2) μ = some (nI (suO r V n N w0 n)) := k_sureBits h h.stl h.stay
theorem k_sayWho (h : CS ln μ j V n N w0 r) (hL : LN ln) {c : Nat} {S : Nat → Bool} (hc : N ≤ ln c ∧ ln c < 2147483648) (hc2 : c ≠ 2 ∧ c ≠ 4) (hS : ∀ w, w < N → μ (12, c) w = bI (S w)) :
    ∃ R C, f_X4_sayWhoIsSure sh ln j c μ = some (mrow (mrow μ (12, 2) R) (12, 4) C) ∧ ∀ w, w < N → C w = nI (suS S r V n N w n) := by
  have hb := h.1.b
  have hl4 : ln 4 = 512 := hL.2.2.2.2.1
  have hh : ∃ x, f_X4_sayWhoIsSure sh ln j c μ = some x ∧ ∃ R C, x = mrow (mrow μ (12, 2) R) (12, 4) C ∧ ∀ w, w < N → C w = nI (suS S r V n N w n) := by
    rw [f_X4_sayWhoIsSure, h.c2, show (0 : Int32) = nI 0 from rfl, k_fill (by omega) (by omega), Option.bind_some]
    refine Wh_inv1 n (fun k s => ∃ R C, s = (mrow (mrow μ (12, 2) R) (12, 4) C, nI k) ∧ ∀ w, w < N → C w = nI (suS S r V n N w k)) _ ⟨μ (12, 2), fun i => if i < N then nI 0 else μ (12, 4) i, by rw [mrow_id], fun w hw => by show (if w < N then nI 0 else _) = _; rw [if_pos hw]; rfl⟩ ?_ ?_
    · rintro k _ hk ⟨R0, C0, rfl, hC⟩
      have h0 := (h.rowS (a := 12) (b := 2) R0 (by omega) (by omega)).rowS (a := 12) (b := 4) C0 (by omega) (by omega)
      obtain ⟨R, e, hR⟩ := k_spot (sh := sh) h0 hL hc hc2.1 (fun w hw => by rw [mrow_neB (by omega), mrow_neB (by omega)]; exact hS w hw) hk hk
      rw [mrow_swB (by omega)] at e
      have hh : ∃ x, Wh (fun z : Mm × Int32 => f_X4_sayWhoIsSure_L33 sh ln j c (nI k) z.1 z.2) (mrow (mrow μ (12, 2) R) (12, 4) C0, nI 0) = some x ∧ ∃ C, x = .inl (mrow (mrow μ (12, 2) R) (12, 4) C, nI (k + 1)) ∧ ∀ w, w < N → C w = nI (suS S r V n N w (k + 1)) := by
        refine Wh_inv1 N (fun i s => ∃ C, s = (mrow (mrow μ (12, 2) R) (12, 4) C, nI i) ∧ ∀ w, w < N → C w = nI (if w < i then suS S r V n N w (k + 1) else suS S r V n N w k)) _ ⟨C0, rfl, fun w hw => by rw [if_neg (by omega)]; exact hC w hw⟩ ?_ ?_
        · rintro i _ hi ⟨C, rfl, hC⟩
          have h' := (h.rowS (a := 12) (b := 2) R (by omega) (by omega)).rowS (a := 12) (b := 4) C (by omega) (by omega)
          have hl := (h.1.hb hk hi).2
          have hRl := hR (lab r k i) hl
          have h16 : poss S (lab r k) (fig V n k) N (lab r k i) < 16 := poss_16 ⟨hb.1, hb.2.1⟩
          have e2 : f_X4_spotted sh ln j (mrow (mrow μ (12, 2) R) (12, 4) C) (nI k) (nI i) = some (nI (poss S (lab r k) (fig V n k) N (lab r k i))) := by
            rw [k_spotted h' hL hk hi, mrow_neB (by omega), mrow_self, hRl]
          have hm1 := oo_m1 (show poss S (lab r k) (fig V n k) N (lab r k i) < 512 by omega)
          have hCi := hC i hi
          rw [if_neg (Nat.lt_irrefl i)] at hCi
          have es : suS S r V n N i (k + 1) = suS S r V n N i k ||| (if sur (poss S (lab r k) (fig V n k) N (lab r k i)) = true then 2 ^ k else 0) := rfl
          by_cases c1 : sur (poss S (lab r k) (fig V n k) N (lab r k i)) = true
          · refine ⟨(mrow (mrow μ (12, 2) R) (12, 4) (upd C i (nI (suS S r V n N i k ||| 2 ^ k))), nI (i + 1)), ?_, _, rfl, fun w hw => ?_⟩
            · show f_X4_sayWhoIsSure_L33 sh ln j c (nI k) (mrow (mrow μ (12, 2) R) (12, 4) C) (nI i) = _
              have ea : f_X1_addBits sh ln 4 (mrow (mrow μ (12, 2) R) (12, 4) C) (nI i) (nI (2 ^ k)) = some (mrow (mrow μ (12, 2) R) (12, 4) (upd C i (nI (suS S r V n N i k ||| 2 ^ k)))) := by
                rw [k_addBits (by omega) (by omega), mrow_self, mrow_mrow, hCi, q_or]
              simp (disch := omega) only [Option.bind_some, Option.map_some, Option.bind_none, q_lit, nI_add, pk_mul, q_sub, q_addn, q_cl, q_le, q_lt, q_eq, q_ck, q_cd, q_cb0, q_cb1, q_div, q_rem, q_shl1, q_shr, q_and, q_or, q_tb, if_pos, if_neg, if_true, if_false, not_true, not_false_iff, eq_self, Bool.true_eq_false, Bool.false_eq_true, q_bI0, q_bI1, q_cbI, Nat.or_zero, mst_row, mrow_neA, mrow_neB, mrow_self, q_upd, f_X4_sayWhoIsSure_L33, h'.c2, e2, k_onlyOne (show poss S (lab r k) (fig V n k) N (lab r k i) < 512 by omega), hm1, c1, ea]
            · rw [q_upd]
              by_cases e : w = i
              · subst e; rw [if_pos rfl, if_pos (by omega), es, if_pos c1]
              · rw [if_neg e, hC w hw]
                by_cases c : w < i
                · rw [if_pos c, if_pos (by omega)]
                · rw [if_neg c, if_neg (by omega)]
          · have c1 := Bool.not_eq_true _ ▸ c1
            refine ⟨(mrow (mrow μ (12, 2) R) (12, 4) C, nI (i + 1)), ?_, C, rfl, fun w hw => ?_⟩
            · show f_X4_sayWhoIsSure_L33 sh ln j c (nI k) (mrow (mrow μ (12, 2) R) (12, 4) C) (nI i) = _
              simp (disch := omega) only [Option.bind_some, Option.map_some, Option.bind_none, q_lit, nI_add, pk_mul, q_sub, q_addn, q_cl, q_le, q_lt, q_eq, q_ck, q_cd, q_cb0, q_cb1, q_div, q_rem, q_shl1, q_shr, q_and, q_or, q_tb, if_pos, if_neg, if_true, if_false, not_true, not_false_iff, eq_self, Bool.true_eq_false, Bool.false_eq_true, q_bI0, q_bI1, q_cbI, Nat.or_zero, mst_row, mrow_neA, mrow_neB, mrow_self, q_upd, f_X4_sayWhoIsSure_L33, h'.c2, e2, k_onlyOne (show poss S (lab r k) (fig V n k) N (lab r k i) < 512 by omega), hm1, c1]
            · rw [hC w hw]
              by_cases e : w = i
              · subst e; rw [if_neg (Nat.lt_irrefl w), if_pos (by omega), es, if_neg (by rw [c1]; decide), Nat.or_zero]
              · by_cases c : w < i
                · rw [if_pos c, if_pos (by omega)]
                · rw [if_neg c, if_neg (by omega)]
        · rintro _ ⟨C, rfl, hC⟩
          have h' := (h.rowS (a := 12) (b := 2) R (by omega) (by omega)).rowS (a := 12) (b := 4) C (by omega) (by omega)
          refine ⟨_, ?_, C, rfl, fun w hw => by rw [hC w hw, if_pos hw]⟩
          show f_X4_sayWhoIsSure_L33 sh ln j c (nI k) (mrow (mrow μ (12, 2) R) (12, 4) C) (nI N) = _
          simp (disch := omega) only [Option.bind_some, Option.map_some, Option.bind_none, q_lit, nI_add, pk_mul, q_sub, q_addn, q_cl, q_le, q_lt, q_eq, q_ck, q_cd, q_cb0, q_cb1, q_div, q_rem, q_shl1, q_shr, q_and, q_or, q_tb, if_pos, if_neg, if_true, if_false, not_true, not_false_iff, eq_self, Bool.true_eq_false, Bool.false_eq_true, q_bI0, q_bI1, q_cbI, Nat.or_zero, mst_row, mrow_neA, mrow_neB, mrow_self, q_upd, f_X4_sayWhoIsSure_L33, h'.c2, Nat.le_refl]
      obtain ⟨_, e3, C, rfl, hC3⟩ := hh
      refine ⟨(mrow (mrow μ (12, 2) R) (12, 4) C, nI (k + 1)), ?_, R, C, rfl, hC3⟩
      show f_X4_sayWhoIsSure_L14 sh ln j c (mrow (mrow μ (12, 2) R0) (12, 4) C0) (nI k) = _
      simp (disch := omega) only [Option.bind_some, Option.map_some, Option.bind_none, q_lit, nI_add, pk_mul, q_sub, q_addn, q_cl, q_le, q_lt, q_eq, q_ck, q_cd, q_cb0, q_cb1, q_div, q_rem, q_shl1, q_shr, q_and, q_or, q_tb, if_pos, if_neg, if_true, if_false, not_true, not_false_iff, eq_self, Bool.true_eq_false, Bool.false_eq_true, q_bI0, q_bI1, q_cbI, Nat.or_zero, mst_row, mrow_neA, mrow_neB, mrow_self, q_upd, f_X4_sayWhoIsSure_L14, h0.c1, e, e3]
    · rintro _ ⟨R, C, rfl, hC⟩
      have h0 := (h.rowS (a := 12) (b := 2) R (by omega) (by omega)).rowS (a := 12) (b := 4) C (by omega) (by omega)
      refine ⟨_, ?_, R, C, rfl, hC⟩
      show f_X4_sayWhoIsSure_L14 sh ln j c (mrow (mrow μ (12, 2) R) (12, 4) C) (nI n) = _
      simp (disch := omega) only [Option.bind_some, Option.map_some, Option.bind_none, q_lit, nI_add, pk_mul, q_sub, q_addn, q_cl, q_le, q_lt, q_eq, q_ck, q_cd, q_cb0, q_cb1, q_div, q_rem, q_shl1, q_shr, q_and, q_or, q_tb, if_pos, if_neg, if_true, if_false, not_true, not_false_iff, eq_self, Bool.true_eq_false, Bool.false_eq_true, q_bI0, q_bI1, q_cbI, Nat.or_zero, mst_row, mrow_neA, mrow_neB, mrow_self, q_upd, f_X4_sayWhoIsSure_L14, h0.c1, Nat.le_refl]
  obtain ⟨_, e, R, C, rfl, hC⟩ := hh
  exact ⟨R, C, e, hC⟩
theorem k_sureIfHeard (h : CS ln μ j V n N w0 r) (hL : LN ln) {c : Nat} {S : Nat → Bool} (hc : N ≤ ln c ∧ ln c < 2147483648) (hS : ∀ w, w < N → μ (12, c) w = bI (S w)) {p : Nat} (hp : p < n) :
    f_X4_sureIfHeard sh ln j c μ (nI p) = some (bI (sur (poss (fun w => S w && decide (μ (12, 4) w = μ (12, 4) w0)) (lab r p) (fig V n p) N (lab r p w0)))) := by
  have hb := h.1.b
  have hl4 : ln 4 = 512 := hL.2.2.2.2.1
  have hw0 := hb.2.2.2.2.2
  have hl := (h.1.hb hp hw0).2
  rw [f_X4_sureIfHeard, h.c3, k_group h hp hw0, Option.bind_some, k_at (by omega) (by omega), Option.bind_some]
  refine Wh_it N (fun k => (nI (poss (fun w => S w && decide (μ (12, 4) w = μ (12, 4) w0)) (lab r p) (fig V n p) k (lab r p w0)), nI k)) rfl (fun k hk => ?_) ?_
  · show f_X4_sureIfHeard_L30 sh ln j c (nI p) (nI (lab r p w0)) (μ (12, 4) w0) μ (nI (poss (fun w => S w && decide (μ (12, 4) w = μ (12, 4) w0)) (lab r p) (fig V n p) k (lab r p w0))) (nI k) = some (.inl (nI (poss (fun w => S w && decide (μ (12, 4) w = μ (12, 4) w0)) (lab r p) (fig V n p) (k + 1) (lab r p w0)), nI (k + 1)))
    rw [poss_s]
    have e1 : f_X1_at sh ln c μ (nI k) = some (bI (S k)) := by rw [k_at (by omega) hc.2, hS k hk]
    have e4 : f_X1_at sh ln 4 μ (nI k) = some (μ (12, 4) k) := k_at (by omega) (by omega)
    have hf := fig_lt hb.1 n p k
    have hl2 := (h.1.hb hp hk).2
    by_cases c1 : S k = true
    · by_cases c3 : μ (12, 4) k = μ (12, 4) w0
      · by_cases c2 : lab r p k = lab r p w0
        · simp (disch := omega) only [Option.bind_some, Option.map_some, Option.bind_none, q_lit, nI_add, pk_mul, q_sub, q_addn, q_cl, q_le, q_lt, q_eq, q_ck, q_cd, q_cb0, q_cb1, q_div, q_rem, q_shl1, q_shr, q_and, q_or, q_tb, if_pos, if_neg, if_true, if_false, not_true, not_false_iff, eq_self, Bool.true_eq_false, Bool.false_eq_true, q_bI0, q_bI1, q_cbI, Nat.or_zero, mst_row, mrow_neA, mrow_neB, mrow_self, q_upd, f_X4_sureIfHeard_L30, h.c2, e1, e4, k_group h hp hk, k_figure h hp hk, c1, c2, c3, decide_true, Bool.and_self, and_self]
        · simp (disch := omega) only [Option.bind_some, Option.map_some, Option.bind_none, q_lit, nI_add, pk_mul, q_sub, q_addn, q_cl, q_le, q_lt, q_eq, q_ck, q_cd, q_cb0, q_cb1, q_div, q_rem, q_shl1, q_shr, q_and, q_or, q_tb, if_pos, if_neg, if_true, if_false, not_true, not_false_iff, eq_self, Bool.true_eq_false, Bool.false_eq_true, q_bI0, q_bI1, q_cbI, Nat.or_zero, mst_row, mrow_neA, mrow_neB, mrow_self, q_upd, f_X4_sureIfHeard_L30, h.c2, e1, e4, k_group h hp hk, k_figure h hp hk, c1, c2, c3, and_false]
      · simp (disch := omega) only [Option.bind_some, Option.map_some, Option.bind_none, q_lit, nI_add, pk_mul, q_sub, q_addn, q_cl, q_le, q_lt, q_eq, q_ck, q_cd, q_cb0, q_cb1, q_div, q_rem, q_shl1, q_shr, q_and, q_or, q_tb, if_pos, if_neg, if_true, if_false, not_true, not_false_iff, eq_self, Bool.true_eq_false, Bool.false_eq_true, q_bI0, q_bI1, q_cbI, Nat.or_zero, mst_row, mrow_neA, mrow_neB, mrow_self, q_upd, f_X4_sureIfHeard_L30, h.c2, e1, e4, c1, c3, decide_false, Bool.and_false, false_and]
    · have c1 := Bool.not_eq_true _ ▸ c1
      simp (disch := omega) only [Option.bind_some, Option.map_some, Option.bind_none, q_lit, nI_add, pk_mul, q_sub, q_addn, q_cl, q_le, q_lt, q_eq, q_ck, q_cd, q_cb0, q_cb1, q_div, q_rem, q_shl1, q_shr, q_and, q_or, q_tb, if_pos, if_neg, if_true, if_false, not_true, not_false_iff, eq_self, Bool.true_eq_false, Bool.false_eq_true, q_bI0, q_bI1, q_cbI, Nat.or_zero, mst_row, mrow_neA, mrow_neB, mrow_self, q_upd, f_X4_sureIfHeard_L30, h.c2, e1, c1, false_and, Bool.false_and]
  · show f_X4_sureIfHeard_L30 sh ln j c (nI p) (nI (lab r p w0)) (μ (12, 4) w0) μ (nI (poss (fun w => S w && decide (μ (12, 4) w = μ (12, 4) w0)) (lab r p) (fig V n p) N (lab r p w0))) (nI N) = _
    have h16 : poss (fun w => S w && decide (μ (12, 4) w = μ (12, 4) w0)) (lab r p) (fig V n p) N (lab r p w0) < 16 := poss_16 ⟨hb.1, hb.2.1⟩
    have hk1 := k_onlyOne (show poss (fun w => S w && decide (μ (12, 4) w = μ (12, 4) w0)) (lab r p) (fig V n p) N (lab r p w0) < 512 by omega)
    have hm1 := oo_m1 (show poss (fun w => S w && decide (μ (12, 4) w = μ (12, 4) w0)) (lab r p) (fig V n p) N (lab r p w0) < 512 by omega)
    simp (disch := omega) only [Option.bind_some, Option.map_some, Option.bind_none, q_lit, nI_add, pk_mul, q_sub, q_addn, q_cl, q_le, q_lt, q_eq, q_ck, q_cd, q_cb0, q_cb1, q_div, q_rem, q_shl1, q_shr, q_and, q_or, q_tb, if_pos, if_neg, if_true, if_false, not_true, not_false_iff, eq_self, Bool.true_eq_false, Bool.false_eq_true, q_bI0, q_bI1, q_cbI, Nat.or_zero, mst_row, mrow_neA, mrow_neB, mrow_self, q_upd, f_X4_sureIfHeard_L30, h.c2, Nat.le_refl, hk1, hm1, bI_ifn, Bool.not_eq_false, Bool.decide_eq_true]
theorem k_split (h : CS ln μ j V n N w0 r) (hL : LN ln) {p : Nat} (hp : p < n) {cm : Nat → Nat} (hc : ∀ w, w < N → lf r w = true → μ (12, 3) w = nI (cm w)) (hc8 : ∀ w, w < N → cm w < 8) :
    ∃ a, f_X4_split sh ln j μ (nI p) = some a ∧ CS ln a j V n N w0 (rpt cm N p r) ∧ FrC (fun c => c = 1 ∨ c = 15 + 5 * j + 3) μ a := by
  have hb := h.1.b
  have hl1 : ln 1 = 4096 := hL.2.1
  have hl3 : ln 3 = 512 := hL.2.2.2.1
  have hg := h.2.2.1
  rw [f_X4_split, h.c2]
  have e0 : nI N * (8 : Int32) = nI (N * 8) := by simp (disch := omega) only [Option.bind_some, Option.map_some, Option.bind_none, q_lit, nI_add, pk_mul, q_sub, q_addn, q_cl, q_le, q_lt, q_eq, q_ck, q_cd, q_cb0, q_cb1, q_div, q_rem, q_shl1, q_shr, q_and, q_or, q_tb, if_pos, if_neg, if_true, if_false, not_true, not_false_iff, eq_self, Bool.true_eq_false, Bool.false_eq_true, q_bI0, q_bI1, q_cbI, Nat.or_zero, mst_row, mrow_neA, mrow_neB, mrow_self, q_upd, ]
  rw [e0, k_fill (by omega) (by omega), Option.bind_some]
  refine Wh_inv1 N (fun k s => ∃ a, s = (a, nI (rl (lf r) (fun w => 8 * lab r p w + cm w) (lab r p) k).1, nI k) ∧ CS ln a j V n N w0 (rlr (rl (lf r) (fun w => 8 * lab r p w + cm w) (lab r p) k).2.2 p N r) ∧ FrC (fun c => c = 1 ∨ c = 15 + 5 * j + 3) μ a ∧
    (∀ i, i < N * 8 → a (12, 1) i = if (rl (lf r) (fun w => 8 * lab r p w + cm w) (lab r p) k).2.1 i = 0 then -nI 1 else nI ((rl (lf r) (fun w => 8 * lab r p w + cm w) (lab r p) k).2.1 i - 1)) ∧
    (∀ w, k ≤ w → (rl (lf r) (fun w => 8 * lab r p w + cm w) (lab r p) k).2.2 w = lab r p w)) _ ⟨_, rfl, ?_, ?_, ?_, fun w _ => rfl⟩ ?_ ?_
  · rw [rl_0, rlr_old h.1 hp]
    exact h.rowS _ (by omega) (by omega)
  · exact FrC.rf.mr (Or.inl rfl)
  · intro i hi
    rw [mrow_self, if_pos hi, rl_0]
    rfl
  · rintro k _ hk ⟨a, rfl, h', hF, hT, ho⟩
    have hz := rl_b (lf r) (fun w => 8 * lab r p w + cm w) (lab r p) k
    have hoN := rl_o (lv := lf r) (key := fun w => 8 * lab r p w + cm w) (old := lab r p) (N := N) (fun w hw => (h.1.hb hp hw).2) k (by omega)
    have hl := (h.1.hb hp hk).2
    have hlab : lab (rlr (rl (lf r) (fun w => 8 * lab r p w + cm w) (lab r p) k).2.2 p N r) p k = lab r p k := by
      rw [rlr_lab hb.2.2.2.1 hk (by rw [ho k (Nat.le_refl k)]; omega), if_pos rfl, ho k (Nat.le_refl k)]
    have hlf : lf (rlr (rl (lf r) (fun w => 8 * lab r p w + cm w) (lab r p) k).2.2 p N r) k = lf r k := rlr_lf (by omega)
    have h3 : a (12, 3) k = μ (12, 3) k := by rw [hF.ce (by omega)]
    have hi := idx_lt hp hk
    by_cases hLf : lf r k = true
    · have hck := hc k hk hLf
      rw [← h3] at hck
      have h8 := hc8 k hk
      have hTk := hT (8 * lab r p k + cm k) (by omega)
      have hbk := hz.2 (8 * lab r p k + cm k)
      have ekey : lab r p k * 8 + cm k = 8 * lab r p k + cm k := by omega
      have e3 : f_X1_at sh ln 3 a (nI k) = some (nI (cm k)) := by rw [k_at (by omega) (by omega), hck]
      by_cases h0 : (rl (lf r) (fun w => 8 * lab r p w + cm w) (lab r p) k).2.1 (8 * lab r p k + cm k) = 0
      · rw [if_pos h0] at hTk
        have e1 : f_X1_at sh ln 1 a (nI (8 * lab r p k + cm k)) = some (-nI 1) := by rw [k_at (by omega) (by omega), hTk]
        obtain ⟨a1, ha1⟩ : ∃ a1, a1 = mrow a (12, 1) (upd (a (12, 1)) (8 * lab r p k + cm k) (nI (rl (lf r) (fun w => 8 * lab r p w + cm w) (lab r p) k).1)) := ⟨_, rfl⟩
        have ep : f_X1_put sh ln 1 a (nI (8 * lab r p k + cm k)) (nI (rl (lf r) (fun w => 8 * lab r p w + cm w) (lab r p) k).1) = some a1 := by rw [k_put (by omega) (by omega), ha1]
        have h1' : CS ln a1 j V n N w0 (rlr (rl (lf r) (fun w => 8 * lab r p w + cm w) (lab r p) k).2.2 p N r) := by rw [ha1]; exact h'.rowS _ (by omega) (by omega)
        have e1b : f_X1_at sh ln 1 a1 (nI (8 * lab r p k + cm k)) = some (nI (rl (lf r) (fun w => 8 * lab r p w + cm w) (lab r p) k).1) := by
          rw [k_at (by omega) (by omega), ha1, mrow_self, q_upd, if_pos rfl]
        have eg : f_X1_put sh ln (15 + 5 * j + 3) a1 (nI (p * N + k)) (nI (rl (lf r) (fun w => 8 * lab r p w + cm w) (lab r p) k).1) = some (mrow a1 (12, 15 + 5 * j + 3) (upd (a1 (12, 15 + 5 * j + 3)) (p * N + k) (nI (rl (lf r) (fun w => 8 * lab r p w + cm w) (lab r p) k).1))) := k_put (by omega) (hg.2 3 (by omega))
        rw [rl_z hLf h0]
        refine ⟨(mrow a1 (12, 15 + 5 * j + 3) (upd (a1 (12, 15 + 5 * j + 3)) (p * N + k) (nI (rl (lf r) (fun w => 8 * lab r p w + cm w) (lab r p) k).1)), nI ((rl (lf r) (fun w => 8 * lab r p w + cm w) (lab r p) k).1 + 1), nI (k + 1)), ?_, _, rfl, ?_, ?_, ?_, ?_⟩
        · show f_X4_split_L20 sh ln j (nI p) a (nI (rl (lf r) (fun w => 8 * lab r p w + cm w) (lab r p) k).1) (nI k) = _
          simp (disch := omega) only [Option.bind_some, Option.map_some, Option.bind_none, q_lit, nI_add, pk_mul, q_sub, q_addn, q_cl, q_le, q_lt, q_eq, q_ck, q_cd, q_cb0, q_cb1, q_div, q_rem, q_shl1, q_shr, q_and, q_or, q_tb, if_pos, if_neg, if_true, if_false, not_true, not_false_iff, eq_self, Bool.true_eq_false, Bool.false_eq_true, q_bI0, q_bI1, q_cbI, Nat.or_zero, mst_row, mrow_neA, mrow_neB, mrow_self, q_upd, f_X4_split_L20, f_X4_split_J86, h'.c2, k_stands h' hk, hlf, hLf, k_group h' hp hk, hlab, e3, ekey, e1, ep, h1'.c2, e1b, eg]
        · exact h1'.grp h.1 hp hk hoN (by omega)
        · rw [ha1]
          exact (hF.mr (Or.inl rfl)).mr (Or.inr rfl)
        · intro i hi
          rw [mrow_neB (by omega), ha1, mrow_self, q_upd]
          show _ = if updN _ _ _ i = 0 then _ else nI (updN _ _ _ i - 1)
          rw [updN_ap]
          by_cases e : i = 8 * lab r p k + cm k
          · rw [if_pos e, if_pos e, if_neg (by omega), Nat.add_sub_cancel]
          · rw [if_neg e, if_neg e]; exact hT i hi
        · intro w hw
          show updN _ _ _ w = _
          rw [updN_ap, if_neg (by omega)]; exact ho w (by omega)
      · rw [if_neg h0] at hTk
        have hx : (rl (lf r) (fun w => 8 * lab r p w + cm w) (lab r p) k).2.1 (8 * lab r p k + cm k) - 1 < N := by omega
        have e1 : f_X1_at sh ln 1 a (nI (8 * lab r p k + cm k)) = some (nI ((rl (lf r) (fun w => 8 * lab r p w + cm w) (lab r p) k).2.1 (8 * lab r p k + cm k) - 1)) := by rw [k_at (by omega) (by omega), hTk]
        have eg : f_X1_put sh ln (15 + 5 * j + 3) a (nI (p * N + k)) (nI ((rl (lf r) (fun w => 8 * lab r p w + cm w) (lab r p) k).2.1 (8 * lab r p k + cm k) - 1)) = some (mrow a (12, 15 + 5 * j + 3) (upd (a (12, 15 + 5 * j + 3)) (p * N + k) (nI ((rl (lf r) (fun w => 8 * lab r p w + cm w) (lab r p) k).2.1 (8 * lab r p k + cm k) - 1)))) := k_put (by omega) (hg.2 3 (by omega))
        have hm : ¬ nI ((rl (lf r) (fun w => 8 * lab r p w + cm w) (lab r p) k).2.1 (8 * lab r p k + cm k) - 1) = -nI 1 := by
          have h3 : ∀ k, k < 512 → ¬ nI k = -nI 1 := by decide +kernel
          exact h3 _ (by omega)
        rw [rl_p hLf h0]
        refine ⟨(mrow a (12, 15 + 5 * j + 3) (upd (a (12, 15 + 5 * j + 3)) (p * N + k) (nI ((rl (lf r) (fun w => 8 * lab r p w + cm w) (lab r p) k).2.1 (8 * lab r p k + cm k) - 1))), nI (rl (lf r) (fun w => 8 * lab r p w + cm w) (lab r p) k).1, nI (k + 1)), ?_, _, rfl, ?_, ?_, ?_, ?_⟩
        · show f_X4_split_L20 sh ln j (nI p) a (nI (rl (lf r) (fun w => 8 * lab r p w + cm w) (lab r p) k).1) (nI k) = _
          simp (disch := omega) only [Option.bind_some, Option.map_some, Option.bind_none, q_lit, nI_add, pk_mul, q_sub, q_addn, q_cl, q_le, q_lt, q_eq, q_ck, q_cd, q_cb0, q_cb1, q_div, q_rem, q_shl1, q_shr, q_and, q_or, q_tb, if_pos, if_neg, if_true, if_false, not_true, not_false_iff, eq_self, Bool.true_eq_false, Bool.false_eq_true, q_bI0, q_bI1, q_cbI, Nat.or_zero, mst_row, mrow_neA, mrow_neB, mrow_self, q_upd, f_X4_split_L20, f_X4_split_J86, h'.c2, k_stands h' hk, hlf, hLf, k_group h' hp hk, hlab, e3, ekey, e1, if_neg hm, eg]
        · exact h'.grp h.1 hp hk hoN hx
        · exact hF.mr (Or.inr rfl)
        · intro i hi
          rw [mrow_neB (by omega)]; exact hT i hi
        · intro w hw
          show updN _ _ _ w = _
          rw [updN_ap, if_neg (by omega)]; exact ho w (by omega)
    · have hLf := Bool.not_eq_true _ ▸ hLf
      rw [rl_n hLf]
      refine ⟨(a, nI (rl (lf r) (fun w => 8 * lab r p w + cm w) (lab r p) k).1, nI (k + 1)), ?_, a, rfl, h', hF, hT, fun w hw => ho w (by omega)⟩
      show f_X4_split_L20 sh ln j (nI p) a (nI (rl (lf r) (fun w => 8 * lab r p w + cm w) (lab r p) k).1) (nI k) = _
      simp (disch := omega) only [Option.bind_some, Option.map_some, Option.bind_none, q_lit, nI_add, pk_mul, q_sub, q_addn, q_cl, q_le, q_lt, q_eq, q_ck, q_cd, q_cb0, q_cb1, q_div, q_rem, q_shl1, q_shr, q_and, q_or, q_tb, if_pos, if_neg, if_true, if_false, not_true, not_false_iff, eq_self, Bool.true_eq_false, Bool.false_eq_true, q_bI0, q_bI1, q_cbI, Nat.or_zero, mst_row, mrow_neA, mrow_neB, mrow_self, q_upd, f_X4_split_L20, h'.c2, k_stands h' hk, hlf, hLf]
  · rintro _ ⟨a, rfl, h', hF, hT, ho⟩
    refine ⟨a, ?_, h', hF⟩
    show f_X4_split_L20 sh ln j (nI p) a (nI (rl (lf r) (fun w => 8 * lab r p w + cm w) (lab r p) N).1) (nI N) = _
    simp (disch := omega) only [Option.bind_some, Option.map_some, Option.bind_none, q_lit, nI_add, pk_mul, q_sub, q_addn, q_cl, q_le, q_lt, q_eq, q_ck, q_cd, q_cb0, q_cb1, q_div, q_rem, q_shl1, q_shr, q_and, q_or, q_tb, if_pos, if_neg, if_true, if_false, not_true, not_false_iff, eq_self, Bool.true_eq_false, Bool.false_eq_true, q_bI0, q_bI1, q_cbI, Nat.or_zero, mst_row, mrow_neA, mrow_neB, mrow_self, q_upd, f_X4_split_L20, h'.c2, Nat.le_refl]
end CLSC
