-- the reference: what all say, answers, how many
def ans (m v : Nat) : Nat := if m = 2 ^ v then 1 else if m.testBit v = true then 2 else 0
def hv (V n v w : Nat) (m : Nat) : Nat := smN m (fun p => if fig V n p w = v then 1 else 0)
theorem hv_le (V n v w m : Nat) : hv V n v w m ≤ m := by
  have := smN_le (n := m) (b := 1) (f := fun p => if fig V n p w = v then 1 else 0) (fun k _ => by split <;> omega)
  rw [Nat.mul_one] at this
  exact this
section REFE
variable {μ : Mm} {V n N w0 : Nat} {r : Nat → Int32}
theorem q_haveIn (h : RS μ V n N w0 r) {w v : Nat} (hw : w < N) (hv2 : v < 2147483648) : f_X11_haveIn μ (nI w) (nI v) = some (nI (hv V n v w n)) := by
  have hb := h.2.b
  unfold f_X11_haveIn
  refine Wh_it n (fun k => (nI (hv V n v w k), nI k)) rfl (fun k hk => ?_) ?_
  · show f_X11_haveIn_L5 (nI w) (nI v) μ (nI (hv V n v w k)) (nI k) = some (.inl (nI (hv V n v w k + (if fig V n k w = v then 1 else 0)), nI (k + 1)))
    have hf := fig_lt hb.1 n k w
    by_cases c : fig V n k w = v
    · simp (disch := omega) only [Option.bind_some, Option.map_some, Option.bind_none, q_lit, nI_add, pk_mul, q_sub, q_addn, q_cl, q_le, q_lt, q_eq, q_ck, q_cd, q_cb0, q_cb1, q_div, q_rem, q_shl1, q_shr, q_and, q_or, q_tb, if_pos, if_neg, if_true, if_false, not_true, not_false_iff, eq_self, Bool.true_eq_false, Bool.false_eq_true, q_bI0, q_bI1, q_cbI, Nat.or_zero, mst_row, mrow_neA, mrow_neB, mrow_self, q_upd, f_X11_haveIn_L5, q_people h, q_noticeIn h hk hw, c]
    · simp (disch := omega) only [Option.bind_some, Option.map_some, Option.bind_none, q_lit, nI_add, pk_mul, q_sub, q_addn, q_cl, q_le, q_lt, q_eq, q_ck, q_cd, q_cb0, q_cb1, q_div, q_rem, q_shl1, q_shr, q_and, q_or, q_tb, if_pos, if_neg, if_true, if_false, not_true, not_false_iff, eq_self, Bool.true_eq_false, Bool.false_eq_true, q_bI0, q_bI1, q_cbI, Nat.or_zero, mst_row, mrow_neA, mrow_neB, mrow_self, q_upd, f_X11_haveIn_L5, q_people h, q_noticeIn h hk hw, c]
  · show f_X11_haveIn_L5 (nI w) (nI v) μ (nI (hv V n v w n)) (nI n) = _
    simp (disch := omega) only [Option.bind_some, Option.map_some, Option.bind_none, q_lit, nI_add, pk_mul, q_sub, q_addn, q_cl, q_le, q_lt, q_eq, q_ck, q_cd, q_cb0, q_cb1, q_div, q_rem, q_shl1, q_shr, q_and, q_or, q_tb, if_pos, if_neg, if_true, if_false, not_true, not_false_iff, eq_self, Bool.true_eq_false, Bool.false_eq_true, q_bI0, q_bI1, q_cbI, Nat.or_zero, mst_row, mrow_neA, mrow_neB, mrow_self, q_upd, f_X11_haveIn_L5, q_people h, Nat.le_refl]
theorem q_answersCome (h : RS μ V n N w0 r) {p q v : Nat} (hp : p < n) (hq : q < n) (hv : v < V) : ∃ R C, f_X11_answersCome μ (nI p) (nI q) (nI v) = some (mrow (mrow μ (8, 0) R) (9, 0) C) ∧ ∀ w, w < N → lf r w = true → C w = nI (ans (poss (lf r) (lab r p) (fig V n q) N (lab r p w)) v) := by
  have hb := h.2.b
  obtain ⟨_, e, R, rfl, hR⟩ := q_lays h hp hq
  have hh : ∃ x, f_X11_answersCome μ (nI p) (nI q) (nI v) = some x ∧ ∃ C, x = mrow (mrow μ (8, 0) R) (9, 0) C ∧ ∀ w, w < N → lf r w = true → C w = nI (ans (poss (lf r) (lab r p) (fig V n q) N (lab r p w)) v) := by
    rw [f_X11_answersCome, e, Option.bind_some]
    refine Wh_inv1 N (fun k s => ∃ C, s = (mrow (mrow μ (8, 0) R) (9, 0) C, nI k) ∧ ∀ w, w < k → lf r w = true → C w = nI (ans (poss (lf r) (lab r p) (fig V n q) N (lab r p w)) v)) _ ⟨(mrow μ (8, 0) R) (9, 0), by rw [mrow_id]; rfl, fun i hi => by omega⟩ ?_ ?_
    · rintro k _ hk ⟨C, rfl, hC⟩
      have h' := (h.row (a := 8) (b := 0) R (by omega)).row (a := 9) (b := 0) C (by omega)
      have hl := (h.2.hb hp hk).2
      have hRl := hR (lab r p k) (by omega)
      have h16 : poss (lf r) (lab r p) (fig V n q) N (lab r p k) < 16 := poss_16 ⟨hb.1, hb.2.1⟩
      have hp4 : 2 ^ v ≤ 2 ^ 4 := Nat.pow_le_pow_right (by decide) (by omega)
      have step : ∀ x : Int32, f_X11_answersCome_L9 (nI p) (nI v) (mrow (mrow μ (8, 0) R) (9, 0) C) (nI k) = some (.inl (mrow (mrow μ (8, 0) R) (9, 0) (upd C k x), nI (k + 1))) → (lf r k = true → x = nI (ans (poss (lf r) (lab r p) (fig V n q) N (lab r p k)) v)) → ∃ s', (fun z : Mm × Int32 => f_X11_answersCome_L9 (nI p) (nI v) z.1 z.2) (mrow (mrow μ (8, 0) R) (9, 0) C, nI k) = some (.inl s') ∧ ∃ C, s' = (mrow (mrow μ (8, 0) R) (9, 0) C, nI (k + 1)) ∧ ∀ w, w < k + 1 → lf r w = true → C w = nI (ans (poss (lf r) (lab r p) (fig V n q) N (lab r p w)) v) := by
        intro x h1 h2
        refine ⟨_, h1, _, rfl, fun w hw hlw => ?_⟩
        rw [q_upd]
        by_cases e : w = k
        · subst e; rw [if_pos rfl]; exact h2 hlw
        · rw [if_neg e]; exact hC w (by omega) hlw
      by_cases hL : lf r k = true
      · by_cases c1 : poss (lf r) (lab r p) (fig V n q) N (lab r p k) = 2 ^ v
        · refine step (nI 1) ?_ (fun _ => by rw [ans, if_pos c1])
          simp (disch := omega) only [Option.bind_some, Option.map_some, Option.bind_none, q_lit, nI_add, pk_mul, q_sub, q_addn, q_cl, q_le, q_lt, q_eq, q_ck, q_cd, q_cb0, q_cb1, q_div, q_rem, q_shl1, q_shr, q_and, q_or, q_tb, if_pos, if_neg, if_true, if_false, not_true, not_false_iff, eq_self, Bool.true_eq_false, Bool.false_eq_true, q_bI0, q_bI1, q_cbI, Nat.or_zero, mst_row, mrow_neA, mrow_neB, mrow_self, q_upd, f_X11_answersCome_L9, f_X11_answersCome_J43, q_worlds h', q_isLeft h' hk, hL, q_label h' hp hk, hRl, c1, mrow_mrow]
        · have hx := q_has (m := poss (lf r) (lab r p) (fig V n q) N (lab r p k)) (p := v) (by omega) (by omega)
          by_cases c2 : (poss (lf r) (lab r p) (fig V n q) N (lab r p k)).testBit v = true
          · refine step (nI 2) ?_ (fun _ => by rw [ans, if_neg c1, if_pos c2])
            simp (disch := omega) only [Option.bind_some, Option.map_some, Option.bind_none, q_lit, nI_add, pk_mul, q_sub, q_addn, q_cl, q_le, q_lt, q_eq, q_ck, q_cd, q_cb0, q_cb1, q_div, q_rem, q_shl1, q_shr, q_and, q_or, q_tb, if_pos, if_neg, if_true, if_false, not_true, not_false_iff, eq_self, Bool.true_eq_false, Bool.false_eq_true, q_bI0, q_bI1, q_cbI, Nat.or_zero, mst_row, mrow_neA, mrow_neB, mrow_self, q_upd, f_X11_answersCome_L9, f_X11_answersCome_J43, q_worlds h', q_isLeft h' hk, hL, q_label h' hp hk, hRl, c1, hx, c2, mrow_mrow]
          · have c2 := Bool.not_eq_true _ ▸ c2
            refine step (nI 0) ?_ (fun _ => by rw [ans, if_neg c1, if_neg (by rw [c2]; decide)])
            simp (disch := omega) only [Option.bind_some, Option.map_some, Option.bind_none, q_lit, nI_add, pk_mul, q_sub, q_addn, q_cl, q_le, q_lt, q_eq, q_ck, q_cd, q_cb0, q_cb1, q_div, q_rem, q_shl1, q_shr, q_and, q_or, q_tb, if_pos, if_neg, if_true, if_false, not_true, not_false_iff, eq_self, Bool.true_eq_false, Bool.false_eq_true, q_bI0, q_bI1, q_cbI, Nat.or_zero, mst_row, mrow_neA, mrow_neB, mrow_self, q_upd, f_X11_answersCome_L9, f_X11_answersCome_J43, q_worlds h', q_isLeft h' hk, hL, q_label h' hp hk, hRl, c1, hx, c2, mrow_mrow]
      · refine step (nI 0) ?_ (fun x => absurd x hL)
        have hL := Bool.not_eq_true _ ▸ hL
        have hx := q_has (m := 0) (p := v) (by omega) (by omega)
        have h0 : ¬ 0 = 2 ^ v := by have := Nat.two_pow_pos v; omega
        simp (disch := omega) only [Option.bind_some, Option.map_some, Option.bind_none, q_lit, nI_add, pk_mul, q_sub, q_addn, q_cl, q_le, q_lt, q_eq, q_ck, q_cd, q_cb0, q_cb1, q_div, q_rem, q_shl1, q_shr, q_and, q_or, q_tb, if_pos, if_neg, if_true, if_false, not_true, not_false_iff, eq_self, Bool.true_eq_false, Bool.false_eq_true, q_bI0, q_bI1, q_cbI, Nat.or_zero, mst_row, mrow_neA, mrow_neB, mrow_self, q_upd, f_X11_answersCome_L9, f_X11_answersCome_J43, q_worlds h', q_isLeft h' hk, hL, hx, h0, Nat.zero_testBit, mrow_mrow]
    · rintro _ ⟨C, rfl, hC⟩
      have h' := (h.row (a := 8) (b := 0) R (by omega)).row (a := 9) (b := 0) C (by omega)
      refine ⟨_, ?_, C, rfl, hC⟩
      show f_X11_answersCome_L9 (nI p) (nI v) (mrow (mrow μ (8, 0) R) (9, 0) C) (nI N) = _
      simp (disch := omega) only [Option.bind_some, Option.map_some, Option.bind_none, q_lit, nI_add, pk_mul, q_sub, q_addn, q_cl, q_le, q_lt, q_eq, q_ck, q_cd, q_cb0, q_cb1, q_div, q_rem, q_shl1, q_shr, q_and, q_or, q_tb, if_pos, if_neg, if_true, if_false, not_true, not_false_iff, eq_self, Bool.true_eq_false, Bool.false_eq_true, q_bI0, q_bI1, q_cbI, Nat.or_zero, mst_row, mrow_neA, mrow_neB, mrow_self, q_upd, f_X11_answersCome_L9, q_worlds h', Nat.le_refl]
  obtain ⟨_, e2, C, rfl, hC⟩ := hh
  exact ⟨R, C, e2, hC⟩
theorem q_saysP (h : RS μ V n N w0 r) {p : Nat} (hp : p < n) {R : Nat → Int32} (hR : μ (8, 0) = R) (hR2 : ∀ k, k < 512 → R k = nI (poss (lf r) (lab r p) (fig V n p) N k)) (hC : ∀ w, w < N → lf r w = true → μ (9, 0) w = nI (suO r V n N w p)) :
    ∃ C, Wh (fun z : Mm × Int32 => f_X11_says_L41 (nI p) z.1 z.2) (μ, nI 0) = some (.inl (mrow μ (9, 0) C, nI (p + 1))) ∧ ∀ w, w < N → lf r w = true → C w = nI (suO r V n N w (p + 1)) := by
  have hb := h.2.b
  have hh : ∃ x, Wh (fun z : Mm × Int32 => f_X11_says_L41 (nI p) z.1 z.2) (μ, nI 0) = some x ∧ ∃ C, x = .inl (mrow μ (9, 0) C, nI (p + 1)) ∧ ∀ w, w < N → lf r w = true → C w = nI (suO r V n N w (p + 1)) := by
    refine Wh_inv1 N (fun k s => ∃ C, s = (mrow μ (9, 0) C, nI k) ∧ ∀ w, w < N → lf r w = true → C w = nI (if w < k then suO r V n N w (p + 1) else suO r V n N w p)) _ ⟨μ (9, 0), by rw [mrow_id], fun w hw hl => by rw [if_neg (by omega)]; exact hC w hw hl⟩ ?_ ?_
    · rintro k _ hk ⟨C, rfl, hC⟩
      have h' := h.row (a := 9) (b := 0) C (by omega)
      have hl := (h.2.hb hp hk).2
      have hRl := hR2 (lab r p k) (by omega)
      have h16 : poss (lf r) (lab r p) (fig V n p) N (lab r p k) < 16 := poss_16 ⟨hb.1, hb.2.1⟩
      have es : suO r V n N k (p + 1) = suO r V n N k p ||| (if suR r V n N p k = true then 2 ^ p else 0) := rfl
      have fin : ∀ x : Int32, f_X11_says_L41 (nI p) (mrow μ (9, 0) C) (nI k) = some (.inl (mrow μ (9, 0) (upd C k x), nI (k + 1))) → (lf r k = true → x = nI (suO r V n N k (p + 1))) → ∃ s', (fun z : Mm × Int32 => f_X11_says_L41 (nI p) z.1 z.2) (mrow μ (9, 0) C, nI k) = some (.inl s') ∧ ∃ C, s' = (mrow μ (9, 0) C, nI (k + 1)) ∧ ∀ w, w < N → lf r w = true → C w = nI (if w < k + 1 then suO r V n N w (p + 1) else suO r V n N w p) := by
        intro x h1 h2
        refine ⟨_, h1, _, rfl, fun w hw hlw => ?_⟩
        rw [q_upd]
        by_cases e : w = k
        · subst e; rw [if_pos rfl, if_pos (by omega)]; exact h2 hlw
        · rw [if_neg e, hC w hw hlw]
          by_cases c : w < k
          · rw [if_pos c, if_pos (by omega)]
          · rw [if_neg c, if_neg (by omega)]
      by_cases hL : lf r k = true
      · have hCk := hC k hk hL
        rw [if_neg (Nat.lt_irrefl k)] at hCk
        have hs1 : one (poss (lf r) (lab r p) (fig V n p) N (lab r p k)) = suR r V n N p k := one_sur (poss_ne0 hk hL)
        by_cases c : suR r V n N p k = true
        · refine fin (nI (suO r V n N k p ||| 2 ^ p)) ?_ (fun _ => by rw [es, if_pos c])
          simp (disch := omega) only [Option.bind_some, Option.map_some, Option.bind_none, q_lit, nI_add, pk_mul, q_sub, q_addn, q_cl, q_le, q_lt, q_eq, q_ck, q_cd, q_cb0, q_cb1, q_div, q_rem, q_shl1, q_shr, q_and, q_or, q_tb, if_pos, if_neg, if_true, if_false, not_true, not_false_iff, eq_self, Bool.true_eq_false, Bool.false_eq_true, q_bI0, q_bI1, q_cbI, Nat.or_zero, mst_row, mrow_neA, mrow_neB, mrow_self, q_upd, f_X11_says_L41, q_worlds h', q_isLeft h' hk, hL, q_label h' hp hk, hR, hRl, q_isOne (show poss (lf r) (lab r p) (fig V n p) N (lab r p k) < 2147483648 by omega), hs1, c, hCk, mrow_mrow]
        · have c := Bool.not_eq_true _ ▸ c
          refine fin (nI (suO r V n N k p)) ?_ (fun _ => by rw [es, if_neg (by rw [c]; decide), Nat.or_zero])
          simp (disch := omega) only [Option.bind_some, Option.map_some, Option.bind_none, q_lit, nI_add, pk_mul, q_sub, q_addn, q_cl, q_le, q_lt, q_eq, q_ck, q_cd, q_cb0, q_cb1, q_div, q_rem, q_shl1, q_shr, q_and, q_or, q_tb, if_pos, if_neg, if_true, if_false, not_true, not_false_iff, eq_self, Bool.true_eq_false, Bool.false_eq_true, q_bI0, q_bI1, q_cbI, Nat.or_zero, mst_row, mrow_neA, mrow_neB, mrow_self, q_upd, f_X11_says_L41, q_worlds h', q_isLeft h' hk, hL, q_label h' hp hk, hR, hRl, q_isOne (show poss (lf r) (lab r p) (fig V n p) N (lab r p k) < 2147483648 by omega), hs1, c, hCk, Nat.or_zero, mrow_mrow]
      · refine fin (C k ||| nI 0) ?_ (fun x => absurd x hL)
        have hL := Bool.not_eq_true _ ▸ hL
        simp (disch := omega) only [Option.bind_some, Option.map_some, Option.bind_none, q_lit, nI_add, pk_mul, q_sub, q_addn, q_cl, q_le, q_lt, q_eq, q_ck, q_cd, q_cb0, q_cb1, q_div, q_rem, q_shl1, q_shr, q_and, q_or, q_tb, if_pos, if_neg, if_true, if_false, not_true, not_false_iff, eq_self, Bool.true_eq_false, Bool.false_eq_true, q_bI0, q_bI1, q_cbI, Nat.or_zero, mst_row, mrow_neA, mrow_neB, mrow_self, q_upd, f_X11_says_L41, q_worlds h', q_isLeft h' hk, hL, mrow_mrow]
    · rintro _ ⟨C, rfl, hC⟩
      have h' := h.row (a := 9) (b := 0) C (by omega)
      refine ⟨_, ?_, C, rfl, fun w hw hl => by rw [hC w hw hl, if_pos hw]⟩
      show f_X11_says_L41 (nI p) (mrow μ (9, 0) C) (nI N) = _
      simp (disch := omega) only [Option.bind_some, Option.map_some, Option.bind_none, q_lit, nI_add, pk_mul, q_sub, q_addn, q_cl, q_le, q_lt, q_eq, q_ck, q_cd, q_cb0, q_cb1, q_div, q_rem, q_shl1, q_shr, q_and, q_or, q_tb, if_pos, if_neg, if_true, if_false, not_true, not_false_iff, eq_self, Bool.true_eq_false, Bool.false_eq_true, q_bI0, q_bI1, q_cbI, Nat.or_zero, mst_row, mrow_neA, mrow_neB, mrow_self, q_upd, f_X11_says_L41, q_worlds h', Nat.le_refl]
  obtain ⟨_, e, C, rfl, hC⟩ := hh
  exact ⟨C, e, hC⟩
theorem q_says (h : RS μ V n N w0 r) : ∃ μ', f_X11_says μ = some (nI (suO r V n N w0 n), μ') ∧ RS μ' V n N w0 (drp (fun w => nI (suO r V n N w n)) N w0 r) ∧ Fr [1, 8, 9] μ μ' := by
  have hb := h.2.b
  have hh : ∃ x, f_X11_says μ = some x ∧ ∃ μ', x = (nI (suO r V n N w0 n), μ') ∧ RS μ' V n N w0 (drp (fun w => nI (suO r V n N w n)) N w0 r) ∧ Fr [1, 8, 9] μ μ' := by
    unfold f_X11_says
    refine Wh_inv1 N (fun k s => ∃ C, s = (mrow μ (9, 0) C, nI k) ∧ ∀ w, w < k → C w = nI 0) _ ⟨μ (9, 0), by rw [mrow_id]; rfl, fun i hi => by omega⟩ ?_ ?_
    · rintro k _ hk ⟨C, rfl, hC⟩
      have h' := h.row (a := 9) (b := 0) C (by omega)
      refine ⟨(mrow μ (9, 0) (upd C k (nI 0)), nI (k + 1)), ?_, _, rfl, ?_⟩
      · show f_X11_says_L2 (mrow μ (9, 0) C) (nI k) = _
        simp (disch := omega) only [Option.bind_some, Option.map_some, Option.bind_none, q_lit, nI_add, pk_mul, q_sub, q_addn, q_cl, q_le, q_lt, q_eq, q_ck, q_cd, q_cb0, q_cb1, q_div, q_rem, q_shl1, q_shr, q_and, q_or, q_tb, if_pos, if_neg, if_true, if_false, not_true, not_false_iff, eq_self, Bool.true_eq_false, Bool.false_eq_true, q_bI0, q_bI1, q_cbI, Nat.or_zero, mst_row, mrow_neA, mrow_neB, mrow_self, q_upd, f_X11_says_L2, q_worlds h', mrow_mrow]
      · intro i hi
        rw [q_upd]
        split
        · rfl
        · exact hC i (by omega)
    · rintro _ ⟨C, rfl, hC⟩
      have h0 := h.row (a := 9) (b := 0) C (by omega)
      have e : f_X11_says_L2 (mrow μ (9, 0) C) (nI N) = (Wh (fun z : Mm × Int32 => f_X11_says_L25 z.1 z.2) (mrow μ (9, 0) C, nI 0)).map Sum.inr := by
        simp (disch := omega) only [Option.bind_some, Option.map_some, Option.bind_none, q_lit, nI_add, pk_mul, q_sub, q_addn, q_cl, q_le, q_lt, q_eq, q_ck, q_cd, q_cb0, q_cb1, q_div, q_rem, q_shl1, q_shr, q_and, q_or, q_tb, if_pos, if_neg, if_true, if_false, not_true, not_false_iff, eq_self, Bool.true_eq_false, Bool.false_eq_true, q_bI0, q_bI1, q_cbI, Nat.or_zero, mst_row, mrow_neA, mrow_neB, mrow_self, q_upd, f_X11_says_L2, q_worlds h0, Nat.le_refl]
      have hh : ∃ x, Wh (fun z : Mm × Int32 => f_X11_says_L25 z.1 z.2) (mrow μ (9, 0) C, nI 0) = some x ∧ ∃ μ', x = (nI (suO r V n N w0 n), μ') ∧ RS μ' V n N w0 (drp (fun w => nI (suO r V n N w n)) N w0 r) ∧ Fr [1, 8, 9] μ μ' := by
        refine Wh_inv1 n (fun k s => ∃ a, s = (a, nI k) ∧ RS a V n N w0 r ∧ Fr [1, 8, 9] μ a ∧ ∀ w, w < N → lf r w = true → a (9, 0) w = nI (suO r V n N w k)) _ ⟨_, rfl, h0, (by repeat first | exact Fr.rf | refine Fr.mr ?_ (by decide)), fun w hw _ => by rw [mrow_self]; exact hC w hw⟩ ?_ ?_
        · rintro k _ hk ⟨a, rfl, ha, hF, hC⟩
          obtain ⟨_, e1, R, rfl, hR⟩ := q_lays ha hk hk
          have ha' := ha.row (a := 8) (b := 0) R (by omega)
          obtain ⟨C, e2, hC2⟩ := q_saysP ha' hk (R := R) (mrow_self _ _ _) hR (fun w hw hl => by rw [mrow_neA (by omega)]; exact hC w hw hl)
          refine ⟨(mrow (mrow a (8, 0) R) (9, 0) C, nI (k + 1)), ?_, _, rfl, ha'.row _ (by omega), (hF.mr (by decide)).mr (by decide), fun w hw hl => by rw [mrow_self]; exact hC2 w hw hl⟩
          show f_X11_says_L25 a (nI k) = _
          simp (disch := omega) only [Option.bind_some, Option.map_some, Option.bind_none, q_lit, nI_add, pk_mul, q_sub, q_addn, q_cl, q_le, q_lt, q_eq, q_ck, q_cd, q_cb0, q_cb1, q_div, q_rem, q_shl1, q_shr, q_and, q_or, q_tb, if_pos, if_neg, if_true, if_false, not_true, not_false_iff, eq_self, Bool.true_eq_false, Bool.false_eq_true, q_bI0, q_bI1, q_cbI, Nat.or_zero, mst_row, mrow_neA, mrow_neB, mrow_self, q_upd, f_X11_says_L25, q_people ha, e1, e2]
        · rintro _ ⟨a, rfl, ha, hF, hC⟩
          have e2 := q_drops ha
          have ew := hC w0 hb.2.2.2.2.2 ha.2.h0
          have ed : drp (a (9, 0)) N w0 r = drp (fun w => nI (suO r V n N w n)) N w0 r := drp_congr h.2 (fun w hw hl => by rw [hC w hw hl, ew])
          refine ⟨(nI (suO r V n N w0 n), mrow a (1, 0) (drp (a (9, 0)) N w0 r)), ?_, _, rfl, ?_, hF.mr (by decide)⟩
          · show f_X11_says_L25 a (nI n) = _
            simp (disch := omega) only [Option.bind_some, Option.map_some, Option.bind_none, q_lit, nI_add, pk_mul, q_sub, q_addn, q_cl, q_le, q_lt, q_eq, q_ck, q_cd, q_cb0, q_cb1, q_div, q_rem, q_shl1, q_shr, q_and, q_or, q_tb, if_pos, if_neg, if_true, if_false, not_true, not_false_iff, eq_self, Bool.true_eq_false, Bool.false_eq_true, q_bI0, q_bI1, q_cbI, Nat.or_zero, mst_row, mrow_neA, mrow_neB, mrow_self, q_upd, f_X11_says_L25, q_people ha, q_here ha, e2, ew, Nat.le_refl]
          · rw [ed]
            exact RS.set (drp_WF _ h.2) a
      obtain ⟨x, h1, h2⟩ := hh
      exact ⟨x, by show f_X11_says_L2 (mrow μ (9, 0) C) (nI N) = _; rw [e, h1]; rfl, h2⟩
  obtain ⟨_, e, μ', rfl, h1, h2⟩ := hh
  exact ⟨μ', e, h1, h2⟩
theorem q_readsOut (h : RS μ V n N w0 r) {p : Nat} (hp : p < n) : ∃ μ', f_X11_readsOut μ (nI p) = some μ' ∧ RS μ' V n N w0 (drp (fun w => nI (fig V n p w)) N w0 r) ∧ Fr [1, 9] μ μ' := by
  have hb := h.2.b
  obtain ⟨C, e1, hC⟩ := q_noticesCome h hp
  have h1 := h.row (a := 9) (b := 0) C (by omega)
  have e2 := q_drops h1
  rw [mrow_self] at e2
  have ed : drp C N w0 r = drp (fun w => nI (fig V n p w)) N w0 r := drp_congr h.2 (fun w hw hl => by rw [hC w hw, hC w0 hb.2.2.2.2.2])
  have e : f_X11_readsOut μ (nI p) = some (mrow (mrow μ (9, 0) C) (1, 0) (drp C N w0 r)) := by
    simp (disch := omega) only [Option.bind_some, Option.map_some, Option.bind_none, q_lit, nI_add, pk_mul, q_sub, q_addn, q_cl, q_le, q_lt, q_eq, q_ck, q_cd, q_cb0, q_cb1, q_div, q_rem, q_shl1, q_shr, q_and, q_or, q_tb, if_pos, if_neg, if_true, if_false, not_true, not_false_iff, eq_self, Bool.true_eq_false, Bool.false_eq_true, q_bI0, q_bI1, q_cbI, Nat.or_zero, mst_row, mrow_neA, mrow_neB, mrow_self, q_upd, f_X11_readsOut, e1, e2]
  exact ⟨_, e, by rw [ed]; exact RS.set (drp_WF _ h.2) _, (by repeat first | exact Fr.rf | refine Fr.mr ?_ (by decide))⟩
end REFE
