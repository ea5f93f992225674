-- the class: what all know in common
section COMK
variable {sh : Sh} {ln : Nat → Nat} {μ : Mm} {j V n N w0 : Nat} {r : Nat → Int32}
theorem k_put2 (hL : LN ln) {μ : Mm} {C : Nat → Int32} {k : Nat} {v : Int32} (hk : k < 512) : f_X1_put sh ln 2 (mrow μ (12, 2) C) (nI k) v = some (mrow μ (12, 2) (upd C k v)) := by
  have hl : ln 2 = 512 := hL.2.2.1
  rw [k_put (by omega) (by omega), mrow_self, mrow_mrow]
theorem k_put5 (hL : LN ln) {μ : Mm} {C : Nat → Int32} {k : Nat} {v : Int32} (hk : k < 512) : f_X1_put sh ln 5 (mrow μ (12, 5) C) (nI k) v = some (mrow μ (12, 5) (upd C k v)) := by
  have hl : ln 5 = 512 := hL.2.2.2.2.2.1
  rw [k_put (by omega) (by omega), mrow_self, mrow_mrow]
theorem k_spread (h : CS ln μ j V n N w0 r) (hL : LN ln) {p : Nat} (hp : p < n) {c : Nat → Bool} (hc : ∀ w, w < N → μ (12, 5) w = bI (c w)) :
    ∃ μ', f_X4_spread sh ln j μ (nI p) = some (bI (newb r p N c N), μ') ∧ CS ln μ' j V n N w0 r ∧ FrC (fun c => c = 2 ∨ c = 5) μ μ' ∧ ∀ w, w < N → μ' (12, 5) w = bI (sprd r p N c w) := by
  have hb := h.1.b
  have hl2 : ln 2 = 512 := hL.2.2.1
  have hl5 : ln 5 = 512 := hL.2.2.2.2.2.1
  have hh : ∃ x, f_X4_spread sh ln j μ (nI p) = some x ∧ ∃ μ', x = (bI (newb r p N c N), μ') ∧ CS ln μ' j V n N w0 r ∧ FrC (fun c => c = 2 ∨ c = 5) μ μ' ∧ ∀ w, w < N → μ' (12, 5) w = bI (sprd r p N c w) := by
    rw [f_X4_spread, h.c2, show (0 : Int32) = nI 0 from rfl, k_fill (by omega) (by omega), Option.bind_some]
    refine Wh_inv1 N (fun k s => ∃ R, s = (mrow μ (12, 2) R, nI k) ∧ ∀ i, i < N → R i = bI (anyN k (fun u => c u && decide (lab r p u = i)))) _ ⟨_, rfl, fun i hi => by rw [if_pos hi]; rfl⟩ ?_ ?_
    · rintro k _ hk ⟨R, rfl, hR⟩
      have h' := h.rowS (a := 12) (b := 2) R (by omega) (by omega)
      have hl := (h.1.hb hp hk).2
      have hck := hc k hk
      have e5 : f_X1_at sh ln 5 (mrow μ (12, 2) R) (nI k) = some (bI (c k)) := by rw [k_at (by omega) (by omega), mrow_neB (by omega), hck]
      have ea : ∀ i, anyN (k + 1) (fun u => c u && decide (lab r p u = i)) = (anyN k (fun u => c u && decide (lab r p u = i)) || (c k && decide (lab r p k = i))) := fun i => rfl
      by_cases cc : c k = true
      · refine ⟨(mrow μ (12, 2) (upd R (lab r p k) (nI 1)), nI (k + 1)), ?_, _, rfl, ?_⟩
        · show f_X4_spread_L14 sh ln j (nI p) (mrow μ (12, 2) R) (nI k) = _
          simp (disch := omega) only [Option.bind_some, Option.map_some, Option.bind_none, q_lit, nI_add, pk_mul, q_sub, q_addn, q_cl, q_le, q_lt, q_eq, q_ck, q_cd, q_cb0, q_cb1, q_div, q_rem, q_shl1, q_shr, q_and, q_or, q_tb, if_pos, if_neg, if_true, if_false, not_true, not_false_iff, eq_self, Bool.true_eq_false, Bool.false_eq_true, q_bI0, q_bI1, q_cbI, Nat.or_zero, mst_row, mrow_neA, mrow_neB, mrow_self, q_upd, f_X4_spread_L14, h'.c2, e5, cc, k_group h' hp hk, k_put2 hL (show lab r p k < 512 by omega)]
        · intro i hi
          rw [q_upd, ea]
          by_cases e : i = lab r p k
          · subst e; rw [if_pos rfl]; simp [cc, bI]
          · rw [if_neg e, hR i hi]; simp [Ne.symm e]
      · have cc := Bool.not_eq_true _ ▸ cc
        refine ⟨(mrow μ (12, 2) R, nI (k + 1)), ?_, _, rfl, ?_⟩
        · show f_X4_spread_L14 sh ln j (nI p) (mrow μ (12, 2) R) (nI k) = _
          simp (disch := omega) only [Option.bind_some, Option.map_some, Option.bind_none, q_lit, nI_add, pk_mul, q_sub, q_addn, q_cl, q_le, q_lt, q_eq, q_ck, q_cd, q_cb0, q_cb1, q_div, q_rem, q_shl1, q_shr, q_and, q_or, q_tb, if_pos, if_neg, if_true, if_false, not_true, not_false_iff, eq_self, Bool.true_eq_false, Bool.false_eq_true, q_bI0, q_bI1, q_cbI, Nat.or_zero, mst_row, mrow_neA, mrow_neB, mrow_self, q_upd, f_X4_spread_L14, h'.c2, e5, cc]
        · intro i hi
          rw [hR i hi, ea]; simp [cc]
    · rintro _ ⟨R, rfl, hR⟩
      have h' := h.rowS (a := 12) (b := 2) R (by omega) (by omega)
      have hg : ∀ i, i < N → R i = bI (gon r p N c i) := hR
      have e2 : f_X4_spread_L14 sh ln j (nI p) (mrow μ (12, 2) R) (nI N) = (Wh (fun z : Mm × Int32 × Int32 => f_X4_spread_L59 sh ln j (nI p) z.1 z.2.1 z.2.2) (mrow μ (12, 2) R, nI 0, nI 0)).map Sum.inr := by
        simp (disch := omega) only [Option.bind_some, Option.map_some, Option.bind_none, q_lit, nI_add, pk_mul, q_sub, q_addn, q_cl, q_le, q_lt, q_eq, q_ck, q_cd, q_cb0, q_cb1, q_div, q_rem, q_shl1, q_shr, q_and, q_or, q_tb, if_pos, if_neg, if_true, if_false, not_true, not_false_iff, eq_self, Bool.true_eq_false, Bool.false_eq_true, q_bI0, q_bI1, q_cbI, Nat.or_zero, mst_row, mrow_neA, mrow_neB, mrow_self, q_upd, f_X4_spread_L14, h'.c2, Nat.le_refl]
      have hin : ∃ x, Wh (fun z : Mm × Int32 × Int32 => f_X4_spread_L59 sh ln j (nI p) z.1 z.2.1 z.2.2) (mrow μ (12, 2) R, nI 0, nI 0) = some x ∧ ∃ μ', x = (bI (newb r p N c N), μ') ∧ CS ln μ' j V n N w0 r ∧ FrC (fun c => c = 2 ∨ c = 5) μ μ' ∧ ∀ w, w < N → μ' (12, 5) w = bI (sprd r p N c w) := by
        refine Wh_inv1 N (fun k s => ∃ C, s = (mrow (mrow μ (12, 2) R) (12, 5) C, bI (newb r p N c k), nI k) ∧ ∀ w, w < N → C w = bI (if w < k then sprd r p N c w else c w)) _ ⟨μ (12, 5), ?_, fun w hw => by rw [if_neg (by omega)]; exact hc w hw⟩ ?_ ?_
        · have : μ (12, 5) = (mrow μ (12, 2) R) (12, 5) := by rw [mrow_neB (by omega)]
          rw [this, mrow_id]
          rfl
        · rintro k _ hk ⟨C, rfl, hC⟩
          have h2 := h'.rowS (a := 12) (b := 5) C (by omega) (by omega)
          have hl := (h.1.hb hp hk).2
          have hCk := hC k hk
          rw [if_neg (Nat.lt_irrefl k)] at hCk
          have e5 : f_X1_at sh ln 5 (mrow (mrow μ (12, 2) R) (12, 5) C) (nI k) = some (bI (c k)) := by rw [k_at (by omega) (by omega), mrow_self, hCk]
          have esp : f_X4_spotted sh ln j (mrow (mrow μ (12, 2) R) (12, 5) C) (nI p) (nI k) = some (bI (gon r p N c (lab r p k))) := by
            rw [k_spotted h2 hL hp hk, mrow_neB (by omega), mrow_self, hg _ hl]
          have es : sprd r p N c k = (c k || (lf r k && gon r p N c (lab r p k))) := rfl
          have en : newb r p N c (k + 1) = (newb r p N c k || (!c k && (lf r k && gon r p N c (lab r p k)))) := rfl
          have fin : f_X4_spread_L59 sh ln j (nI p) (mrow (mrow μ (12, 2) R) (12, 5) C) (bI (newb r p N c k)) (nI k) = some (.inl (mrow (mrow μ (12, 2) R) (12, 5) C, bI (newb r p N c k), nI (k + 1))) → sprd r p N c k = c k → newb r p N c (k + 1) = newb r p N c k → ∃ s', (fun z : Mm × Int32 × Int32 => f_X4_spread_L59 sh ln j (nI p) z.1 z.2.1 z.2.2) (mrow (mrow μ (12, 2) R) (12, 5) C, bI (newb r p N c k), nI k) = some (.inl s') ∧ ∃ C, s' = (mrow (mrow μ (12, 2) R) (12, 5) C, bI (newb r p N c (k + 1)), nI (k + 1)) ∧ ∀ w, w < N → C w = bI (if w < k + 1 then sprd r p N c w else c w) := by
            intro e1 e2 e3
            refine ⟨_, e1, C, by rw [e3], fun w hw => ?_⟩
            rw [hC w hw]
            by_cases e : w = k
            · subst e; rw [if_neg (Nat.lt_irrefl w), if_pos (by omega), e2]
            · by_cases c : w < k
              · rw [if_pos c, if_pos (by omega)]
              · rw [if_neg c, if_neg (by omega)]
          by_cases c2 : lf r k = true
          · by_cases c1 : c k = true
            · refine fin ?_ (by rw [es, c1]; rfl) (by rw [en, c1]; simp)
              simp (disch := omega) only [Option.bind_some, Option.map_some, Option.bind_none, q_lit, nI_add, pk_mul, q_sub, q_addn, q_cl, q_le, q_lt, q_eq, q_ck, q_cd, q_cb0, q_cb1, q_div, q_rem, q_shl1, q_shr, q_and, q_or, q_tb, if_pos, if_neg, if_true, if_false, not_true, not_false_iff, eq_self, Bool.true_eq_false, Bool.false_eq_true, q_bI0, q_bI1, q_cbI, Nat.or_zero, mst_row, mrow_neA, mrow_neB, mrow_self, q_upd, f_X4_spread_L59, h2.c2, k_stands h2 hk, c2, e5, c1]
            · have c1 := Bool.not_eq_true _ ▸ c1
              by_cases c3 : gon r p N c (lab r p k) = true
              · refine ⟨(mrow (mrow μ (12, 2) R) (12, 5) (upd C k (nI 1)), nI 1, nI (k + 1)), ?_, upd C k (nI 1), ?_, fun w hw => ?_⟩
                · show f_X4_spread_L59 sh ln j (nI p) (mrow (mrow μ (12, 2) R) (12, 5) C) (bI (newb r p N c k)) (nI k) = _
                  simp (disch := omega) only [Option.bind_some, Option.map_some, Option.bind_none, q_lit, nI_add, pk_mul, q_sub, q_addn, q_cl, q_le, q_lt, q_eq, q_ck, q_cd, q_cb0, q_cb1, q_div, q_rem, q_shl1, q_shr, q_and, q_or, q_tb, if_pos, if_neg, if_true, if_false, not_true, not_false_iff, eq_self, Bool.true_eq_false, Bool.false_eq_true, q_bI0, q_bI1, q_cbI, Nat.or_zero, mst_row, mrow_neA, mrow_neB, mrow_self, q_upd, f_X4_spread_L59, h2.c2, k_stands h2 hk, c2, e5, c1, esp, c3, k_put5 hL (show k < 512 by omega)]
                · rw [en, c1, c2, c3]; simp [bI_t]
                · rw [q_upd]
                  by_cases e : w = k
                  · subst e; rw [if_pos rfl, if_pos (by omega), es, c2, c3]; simp [bI]
                  · rw [if_neg e, hC w hw]
                    by_cases c : w < k
                    · rw [if_pos c, if_pos (by omega)]
                    · rw [if_neg c, if_neg (by omega)]
              · have c3 := Bool.not_eq_true _ ▸ c3
                refine fin ?_ (by rw [es, c1, c2, c3]; rfl) (by rw [en, c1, c2, c3]; simp)
                simp (disch := omega) only [Option.bind_some, Option.map_some, Option.bind_none, q_lit, nI_add, pk_mul, q_sub, q_addn, q_cl, q_le, q_lt, q_eq, q_ck, q_cd, q_cb0, q_cb1, q_div, q_rem, q_shl1, q_shr, q_and, q_or, q_tb, if_pos, if_neg, if_true, if_false, not_true, not_false_iff, eq_self, Bool.true_eq_false, Bool.false_eq_true, q_bI0, q_bI1, q_cbI, Nat.or_zero, mst_row, mrow_neA, mrow_neB, mrow_self, q_upd, f_X4_spread_L59, h2.c2, k_stands h2 hk, c2, e5, c1, esp, c3]
          · have c2 := Bool.not_eq_true _ ▸ c2
            refine fin ?_ (by rw [es, c2, Bool.false_and, Bool.or_false]) (by rw [en, c2]; simp)
            simp (disch := omega) only [Option.bind_some, Option.map_some, Option.bind_none, q_lit, nI_add, pk_mul, q_sub, q_addn, q_cl, q_le, q_lt, q_eq, q_ck, q_cd, q_cb0, q_cb1, q_div, q_rem, q_shl1, q_shr, q_and, q_or, q_tb, if_pos, if_neg, if_true, if_false, not_true, not_false_iff, eq_self, Bool.true_eq_false, Bool.false_eq_true, q_bI0, q_bI1, q_cbI, Nat.or_zero, mst_row, mrow_neA, mrow_neB, mrow_self, q_upd, f_X4_spread_L59, h2.c2, k_stands h2 hk, c2]
        · rintro _ ⟨C, rfl, hC⟩
          have h2 := h'.rowS (a := 12) (b := 5) C (by omega) (by omega)
          refine ⟨(bI (newb r p N c N), mrow (mrow μ (12, 2) R) (12, 5) C), ?_, _, rfl, h2, (FrC.rf.mr (Or.inl rfl)).mr (Or.inr rfl), fun w hw => by rw [mrow_self, hC w hw, if_pos hw]⟩
          show f_X4_spread_L59 sh ln j (nI p) (mrow (mrow μ (12, 2) R) (12, 5) C) (bI (newb r p N c N)) (nI N) = _
          simp (disch := omega) only [Option.bind_some, Option.map_some, Option.bind_none, q_lit, nI_add, pk_mul, q_sub, q_addn, q_cl, q_le, q_lt, q_eq, q_ck, q_cd, q_cb0, q_cb1, q_div, q_rem, q_shl1, q_shr, q_and, q_or, q_tb, if_pos, if_neg, if_true, if_false, not_true, not_false_iff, eq_self, Bool.true_eq_false, Bool.false_eq_true, q_bI0, q_bI1, q_cbI, Nat.or_zero, mst_row, mrow_neA, mrow_neB, mrow_self, q_upd, f_X4_spread_L59, h2.c2, Nat.le_refl]
      obtain ⟨x, h1, h2⟩ := hin
      exact ⟨x, by show f_X4_spread_L14 sh ln j (nI p) (mrow μ (12, 2) R) (nI N) = _; rw [e2, h1]; rfl, h2⟩
  obtain ⟨_, e, a, rfl, h1, h2, h3⟩ := hh
  exact ⟨a, e, h1, h2, h3⟩
theorem q_orb (a b : Bool) : bI a ||| bI b = bI (a || b) := by cases a <;> cases b <;> decide
theorem k_round (h : CS ln μ j V n N w0 r) (hL : LN ln) (q : Int32) (m : Nat) {c : Nat → Bool} (hc : ∀ w, w < N → μ (12, 5) w = bI (c w)) :
    ∃ μ', Wh (fun z : Mm × Int32 × Int32 => f_X4_knownByAll_L47 sh ln j q (nI m) z.1 z.2.1 z.2.2) (μ, nI 0, nI 0) = some (.inl (μ', bI (rnf r N c n), nI (m + 1))) ∧ CS ln μ' j V n N w0 r ∧ FrC (fun c => c = 2 ∨ c = 5) μ μ' ∧ ∀ w, w < N → μ' (12, 5) w = bI (rnd r N c n w) := by
  have hb := h.1.b
  have hh : ∃ x, Wh (fun z : Mm × Int32 × Int32 => f_X4_knownByAll_L47 sh ln j q (nI m) z.1 z.2.1 z.2.2) (μ, nI 0, nI 0) = some x ∧ ∃ μ', x = .inl (μ', bI (rnf r N c n), nI (m + 1)) ∧ CS ln μ' j V n N w0 r ∧ FrC (fun c => c = 2 ∨ c = 5) μ μ' ∧ ∀ w, w < N → μ' (12, 5) w = bI (rnd r N c n w) := by
    refine Wh_inv1 n (fun k s => ∃ a, s = (a, bI (rnf r N c k), nI k) ∧ CS ln a j V n N w0 r ∧ FrC (fun c => c = 2 ∨ c = 5) μ a ∧ ∀ w, w < N → a (12, 5) w = bI (rnd r N c k w)) _ ⟨μ, rfl, h, FrC.rf, hc⟩ ?_ ?_
    · rintro k _ hk ⟨a, rfl, ha, hF, hC⟩
      obtain ⟨a2, e1, ha2, hF2, hC2⟩ := k_spread (sh := sh) ha hL hk hC
      refine ⟨(a2, bI (rnf r N c (k + 1)), nI (k + 1)), ?_, a2, rfl, ha2, hF.tr hF2, hC2⟩
      show f_X4_knownByAll_L47 sh ln j q (nI m) a (bI (rnf r N c k)) (nI k) = _
      have en : rnf r N c (k + 1) = (rnf r N c k || newb r k N (rnd r N c k) N) := rfl
      rw [en]
      simp (disch := omega) only [Option.bind_some, Option.map_some, Option.bind_none, q_lit, nI_add, pk_mul, q_sub, q_addn, q_cl, q_le, q_lt, q_eq, q_ck, q_cd, q_cb0, q_cb1, q_div, q_rem, q_shl1, q_shr, q_and, q_or, q_tb, if_pos, if_neg, if_true, if_false, not_true, not_false_iff, eq_self, Bool.true_eq_false, Bool.false_eq_true, q_bI0, q_bI1, q_cbI, Nat.or_zero, mst_row, mrow_neA, mrow_neB, mrow_self, q_upd, f_X4_knownByAll_L47, ha.c1, e1, q_orb]
    · rintro _ ⟨a, rfl, ha, hF, hC⟩
      refine ⟨.inl (a, bI (rnf r N c n), nI (m + 1)), ?_, a, rfl, ha, hF, hC⟩
      show f_X4_knownByAll_L47 sh ln j q (nI m) a (bI (rnf r N c n)) (nI n) = _
      simp (disch := omega) only [Option.bind_some, Option.map_some, Option.bind_none, q_lit, nI_add, pk_mul, q_sub, q_addn, q_cl, q_le, q_lt, q_eq, q_ck, q_cd, q_cb0, q_cb1, q_div, q_rem, q_shl1, q_shr, q_and, q_or, q_tb, if_pos, if_neg, if_true, if_false, not_true, not_false_iff, eq_self, Bool.true_eq_false, Bool.false_eq_true, q_bI0, q_bI1, q_cbI, Nat.or_zero, mst_row, mrow_neA, mrow_neB, mrow_self, q_upd, f_X4_knownByAll_L47, ha.c1, Nat.le_refl]
  obtain ⟨_, e, a, rfl, h1, h2, h3⟩ := hh
  exact ⟨a, e, h1, h2, h3⟩
theorem k_common (h : CS ln μ j V n N w0 r) (hL : LN ln) {q : Nat} (hq : q < n) : ∃ μ', f_X4_knownByAll sh ln j μ (nI q) = some (comv r V n N w0 q, μ') ∧ FrC (fun c => c = 2 ∨ c = 5) μ μ' := by
  have hb := h.1.b
  have hw0 := hb.2.2.2.2.2
  have hl5 : ln 5 = 512 := hL.2.2.2.2.2.1
  have hh : ∃ x, f_X4_knownByAll sh ln j μ (nI q) = some x ∧ ∃ μ', x = (comv r V n N w0 q, μ') ∧ FrC (fun c => c = 2 ∨ c = 5) μ μ' := by
    rw [f_X4_knownByAll, h.c2, show (0 : Int32) = nI 0 from rfl, k_fill (by omega) (by omega), Option.bind_some, mrow_neA (by omega), h.c3, show (1 : Int32) = nI 1 from rfl, k_put5 hL (show w0 < 512 by omega), Option.bind_some]
    have fin : ∀ (a : Mm) (k : Nat), k ≤ N → CS ln a j V n N w0 r → FrC (fun c => c = 2 ∨ c = 5) μ a → (∀ w, w < N → a (12, 5) w = bI (itr r n N (com0 w0) k w)) → due r n N (com0 w0) k = false ∨ k = N → ∃ x, f_X4_knownByAll_J78 sh ln j a (nI q) = some x ∧ ∃ μ', x = (comv r V n N w0 q, μ') ∧ FrC (fun c => c = 2 ∨ c = 5) μ μ' := by
      intro a k hk ha hF hC hd
      have hC2 : ∀ w, w < N → a (12, 5) w = bI (itr r n N (com0 w0) N w) := fun w hw => by
        rcases hd with hd | hd
        · rw [hC w hw, due_no hd hk w hw]
        · rw [hC w hw, hd]
      refine ⟨(comv r V n N w0 q, a), ?_, a, rfl, hF⟩
      unfold f_X4_knownByAll_J78
      refine Wh_it N (fun i => (nI (comS r V n N w0 q i (itr r n N (com0 w0) N)), nI i)) rfl (fun i hi => ?_) ?_
      · show f_X4_knownByAll_L84 sh ln j (nI q) a (nI (comS r V n N w0 q i (itr r n N (com0 w0) N))) (nI i) = some (.inl (nI (comS r V n N w0 q i (itr r n N (com0 w0) N) ||| (if itr r n N (com0 w0) N i = true then 2 ^ fig V n q i else 0)), nI (i + 1)))
        have e5 : f_X1_at sh ln 5 a (nI i) = some (bI (itr r n N (com0 w0) N i)) := by rw [k_at (by omega) (by omega), hC2 i hi]
        have hf := fig_lt hb.1 n q i
        by_cases c : itr r n N (com0 w0) N i = true
        · simp (disch := omega) only [Option.bind_some, Option.map_some, Option.bind_none, q_lit, nI_add, pk_mul, q_sub, q_addn, q_cl, q_le, q_lt, q_eq, q_ck, q_cd, q_cb0, q_cb1, q_div, q_rem, q_shl1, q_shr, q_and, q_or, q_tb, if_pos, if_neg, if_true, if_false, not_true, not_false_iff, eq_self, Bool.true_eq_false, Bool.false_eq_true, q_bI0, q_bI1, q_cbI, Nat.or_zero, mst_row, mrow_neA, mrow_neB, mrow_self, q_upd, f_X4_knownByAll_L84, ha.c2, e5, c, k_figure ha hq hi]
        · have c := Bool.not_eq_true _ ▸ c
          simp (disch := omega) only [Option.bind_some, Option.map_some, Option.bind_none, q_lit, nI_add, pk_mul, q_sub, q_addn, q_cl, q_le, q_lt, q_eq, q_ck, q_cd, q_cb0, q_cb1, q_div, q_rem, q_shl1, q_shr, q_and, q_or, q_tb, if_pos, if_neg, if_true, if_false, not_true, not_false_iff, eq_self, Bool.true_eq_false, Bool.false_eq_true, q_bI0, q_bI1, q_cbI, Nat.or_zero, mst_row, mrow_neA, mrow_neB, mrow_self, q_upd, f_X4_knownByAll_L84, ha.c2, e5, c]
      · show f_X4_knownByAll_L84 sh ln j (nI q) a (nI (comS r V n N w0 q N (itr r n N (com0 w0) N))) (nI N) = _
        have hlt := comS_lt (r := r) (n := n) (N := N) (w0 := w0) (q := q) (m := N) (c := itr r n N (com0 w0) N) ⟨hb.1, hb.2.1⟩
        simp (disch := omega) only [Option.bind_some, Option.map_some, Option.bind_none, q_lit, nI_add, pk_mul, q_sub, q_addn, q_cl, q_le, q_lt, q_eq, q_ck, q_cd, q_cb0, q_cb1, q_div, q_rem, q_shl1, q_shr, q_and, q_or, q_tb, if_pos, if_neg, if_true, if_false, not_true, not_false_iff, eq_self, Bool.true_eq_false, Bool.false_eq_true, q_bI0, q_bI1, q_cbI, Nat.or_zero, mst_row, mrow_neA, mrow_neB, mrow_self, q_upd, f_X4_knownByAll_L84, ha.c2, Nat.le_refl, k_onlyOne (show comS r V n N w0 q N (itr r n N (com0 w0) N) < 512 by omega)]
        rfl
    refine Wh_inv N (fun k s => ∃ a, s = (a, bI (due r n N (com0 w0) k), nI k) ∧ CS ln a j V n N w0 r ∧ FrC (fun c => c = 2 ∨ c = 5) μ a ∧ (∀ w, w < N → a (12, 5) w = bI (itr r n N (com0 w0) k w))) _ ⟨_, rfl, h.rowS _ (by omega) (by omega), FrC.rf.mr (Or.inr rfl), fun w hw => ?_⟩ ?_ ?_
    · rw [mrow_self, q_upd]
      by_cases e : w = w0
      · rw [if_pos e]; simp [itr, com0, e, bI]
      · rw [if_neg e, if_pos hw]; simp [itr, com0, e, bI]
    · rintro k _ hk ⟨a, rfl, ha, hF, hC⟩
      by_cases c : due r n N (com0 w0) k = true
      · obtain ⟨a2, e1, ha2, hF2, hC2⟩ := k_round (sh := sh) ha hL (nI q) k hC
        refine Or.inl ⟨(a2, bI (due r n N (com0 w0) (k + 1)), nI (k + 1)), ?_, a2, rfl, ha2, hF.tr hF2, hC2⟩
        show f_X4_knownByAll_L29 sh ln j (nI q) a (bI (due r n N (com0 w0) k)) (nI k) = _
        simp (disch := omega) only [Option.bind_some, Option.map_some, Option.bind_none, q_lit, nI_add, pk_mul, q_sub, q_addn, q_cl, q_le, q_lt, q_eq, q_ck, q_cd, q_cb0, q_cb1, q_div, q_rem, q_shl1, q_shr, q_and, q_or, q_tb, if_pos, if_neg, if_true, if_false, not_true, not_false_iff, eq_self, Bool.true_eq_false, Bool.false_eq_true, q_bI0, q_bI1, q_cbI, Nat.or_zero, mst_row, mrow_neA, mrow_neB, mrow_self, q_upd, f_X4_knownByAll_L29, ha.c2, c, e1]
        rfl
      · have c := Bool.not_eq_true _ ▸ c
        obtain ⟨x, e1, hx⟩ := fin a k (by omega) ha hF hC (Or.inl c)
        refine Or.inr ⟨x, ?_, hx⟩
        show f_X4_knownByAll_L29 sh ln j (nI q) a (bI (due r n N (com0 w0) k)) (nI k) = _
        simp (disch := omega) only [Option.bind_some, Option.map_some, Option.bind_none, q_lit, nI_add, pk_mul, q_sub, q_addn, q_cl, q_le, q_lt, q_eq, q_ck, q_cd, q_cb0, q_cb1, q_div, q_rem, q_shl1, q_shr, q_and, q_or, q_tb, if_pos, if_neg, if_true, if_false, not_true, not_false_iff, eq_self, Bool.true_eq_false, Bool.false_eq_true, q_bI0, q_bI1, q_cbI, Nat.or_zero, mst_row, mrow_neA, mrow_neB, mrow_self, q_upd, f_X4_knownByAll_L29, ha.c2, c, e1]
    · rintro _ ⟨a, rfl, ha, hF, hC⟩
      obtain ⟨x, e1, hx⟩ := fin a N (Nat.le_refl _) ha hF hC (Or.inr rfl)
      refine ⟨x, ?_, hx⟩
      show f_X4_knownByAll_L29 sh ln j (nI q) a (bI (due r n N (com0 w0) N)) (nI N) = _
      simp (disch := omega) only [Option.bind_some, Option.map_some, Option.bind_none, q_lit, nI_add, pk_mul, q_sub, q_addn, q_cl, q_le, q_lt, q_eq, q_ck, q_cd, q_cb0, q_cb1, q_div, q_rem, q_shl1, q_shr, q_and, q_or, q_tb, if_pos, if_neg, if_true, if_false, not_true, not_false_iff, eq_self, Bool.true_eq_false, Bool.false_eq_true, q_bI0, q_bI1, q_cbI, Nat.or_zero, mst_row, mrow_neA, mrow_neB, mrow_self, q_upd, f_X4_knownByAll_L29, ha.c2, Nat.le_refl, e1]
  obtain ⟨_, e, a, rfl, hF⟩ := hh
  exact ⟨a, e, hF⟩
end COMK
