-- the class: marriages
section MARK
variable {sh : Sh} {ln : Nat → Nat} {μ : Mm} {j V n N w0 : Nat} {r : Nat → Int32}
theorem tb_lt {s q n : Nat} (hs : s < 2 ^ n) (h : s.testBit q = true) : q < n := by
  rcases Nat.lt_or_ge q n with h1 | h1
  · exact h1
  · have h2 : s.testBit q = false := Nat.testBit_lt_two_pow (Nat.lt_of_lt_of_le hs (Nat.pow_le_pow_right (by decide) h1))
    rw [h2] at h; cases h
theorem k_mayPair (hL : LN ln) {K : Nat → Nat} (hK : ∀ p, K p < 512) (hA : ∀ p, p < n → μ (12, 13) p = nI (K p)) (hn : n ≤ 9) {s a b : Nat} (hs : s < 512) (ha : a < n) (hb : b < n) : f_X5_mayPair sh ln μ (nI s) (nI a) (nI b) = some (bI (mp K s a b)) := by
  have hl13 : ln 13 = 9 := hL.2.2.2.2.2.2.2.2.2.2.2.2.2.1
  have ka := hK a
  have kb := hK b
  have e1 : f_X1_at sh ln 13 μ (nI a) = some (nI (K a)) := by rw [k_at (by omega) (by omega), hA a ha]
  have e2 : f_X1_at sh ln 13 μ (nI b) = some (nI (K b)) := by rw [k_at (by omega) (by omega), hA b hb]
  unfold mp
  by_cases c1 : s.testBit b = true
  · by_cases c2 : (K a).testBit b = true
    · by_cases c3 : (K b).testBit a = true
      · simp (disch := omega) only [Option.bind_some, Option.map_some, Option.bind_none, q_lit, nI_add, pk_mul, q_sub, q_addn, q_cl, q_le, q_lt, q_eq, q_ck, q_cd, q_cb0, q_cb1, q_div, q_rem, q_shl1, q_shr, q_and, q_or, q_tb, if_pos, if_neg, if_true, if_false, not_true, not_false_iff, eq_self, Bool.true_eq_false, Bool.false_eq_true, q_bI0, q_bI1, q_cbI, Nat.or_zero, mst_row, mrow_neA, mrow_neB, mrow_self, q_upd, f_X5_mayPair, c1, e1, c2, e2, c3, Bool.and_self, bI_t]
      · have c3 := Bool.not_eq_true _ ▸ c3
        simp (disch := omega) only [Option.bind_some, Option.map_some, Option.bind_none, q_lit, nI_add, pk_mul, q_sub, q_addn, q_cl, q_le, q_lt, q_eq, q_ck, q_cd, q_cb0, q_cb1, q_div, q_rem, q_shl1, q_shr, q_and, q_or, q_tb, if_pos, if_neg, if_true, if_false, not_true, not_false_iff, eq_self, Bool.true_eq_false, Bool.false_eq_true, q_bI0, q_bI1, q_cbI, Nat.or_zero, mst_row, mrow_neA, mrow_neB, mrow_self, q_upd, f_X5_mayPair, c1, e1, c2, e2, c3, Bool.and_false, bI_f]
    · have c2 := Bool.not_eq_true _ ▸ c2
      simp (disch := omega) only [Option.bind_some, Option.map_some, Option.bind_none, q_lit, nI_add, pk_mul, q_sub, q_addn, q_cl, q_le, q_lt, q_eq, q_ck, q_cd, q_cb0, q_cb1, q_div, q_rem, q_shl1, q_shr, q_and, q_or, q_tb, if_pos, if_neg, if_true, if_false, not_true, not_false_iff, eq_self, Bool.true_eq_false, Bool.false_eq_true, q_bI0, q_bI1, q_cbI, Nat.or_zero, mst_row, mrow_neA, mrow_neB, mrow_self, q_upd, f_X5_mayPair, c1, e1, c2, Bool.false_and, Bool.and_false, bI_f]
  · have c1 := Bool.not_eq_true _ ▸ c1
    simp (disch := omega) only [Option.bind_some, Option.map_some, Option.bind_none, q_lit, nI_add, pk_mul, q_sub, q_addn, q_cl, q_le, q_lt, q_eq, q_ck, q_cd, q_cb0, q_cb1, q_div, q_rem, q_shl1, q_shr, q_and, q_or, q_tb, if_pos, if_neg, if_true, if_false, not_true, not_false_iff, eq_self, Bool.true_eq_false, Bool.false_eq_true, q_bI0, q_bI1, q_cbI, Nat.or_zero, mst_row, mrow_neA, mrow_neB, mrow_self, q_upd, f_X5_mayPair, c1, Bool.false_and, bI_f]
/-- the tables of marriages stand -/
def MK (μ : Mm) (K T : Nat → Nat) (n : Nat) : Prop := (∀ p, p < n → μ (12, 13) p = nI (K p)) ∧ ∀ s, s < 2 ^ n → μ (12, 11) s = nI (T s)
theorem k_friends (h : CS ln μ j V n N w0 r) (hL : LN ln) : ∃ R, f_X5_gatherFriends sh ln j μ = some (mrow μ (12, 13) R) ∧ ∀ p, p < n → R p = nI (kn r V n N w0 p) := by
  have hb := h.1.b
  have hl13 : ln 13 = 9 := hL.2.2.2.2.2.2.2.2.2.2.2.2.2.1
  have hh : ∃ x, f_X5_gatherFriends sh ln j μ = some x ∧ ∃ R, x = mrow μ (12, 13) R ∧ ∀ p, p < n → R p = nI (kn r V n N w0 p) := by
    unfold f_X5_gatherFriends
    refine Wh_inv1 n (fun k z => ∃ R, z = (mrow μ (12, 13) R, nI k) ∧ ∀ p, p < k → R p = nI (kn r V n N w0 p)) _ ⟨μ (12, 13), by rw [mrow_id]; rfl, fun p hp => by omega⟩ ?_ ?_
    · rintro k _ hk ⟨R, rfl, hR⟩
      have h' := h.rowS (a := 12) (b := 13) R (by omega) (by omega)
      have e1 := k_knownBits (sh := sh) h' hk
      have e2 : ∀ v, f_X1_put sh ln 13 (mrow μ (12, 13) R) (nI k) v = some (mrow μ (12, 13) (upd R k v)) := fun v => by rw [k_put (by omega) (by omega), mrow_self, mrow_mrow]
      refine ⟨(mrow μ (12, 13) (upd R k (nI (kn r V n N w0 k))), nI (k + 1)), ?_, _, rfl, fun p hp => ?_⟩
      · show f_X5_gatherFriends_L2 sh ln j (mrow μ (12, 13) R) (nI k) = _
        simp (disch := omega) only [Option.bind_some, Option.map_some, Option.bind_none, q_lit, nI_add, pk_mul, q_sub, q_addn, q_cl, q_le, q_lt, q_eq, q_ck, q_cd, q_cb0, q_cb1, q_div, q_rem, q_shl1, q_shr, q_and, q_or, q_tb, if_pos, if_neg, if_true, if_false, not_true, not_false_iff, eq_self, Bool.true_eq_false, Bool.false_eq_true, q_bI0, q_bI1, q_cbI, Nat.or_zero, mst_row, mrow_neA, mrow_neB, mrow_self, q_upd, f_X5_gatherFriends_L2, h'.c1, e1, e2]
        rfl
      · rw [q_upd]
        by_cases e : p = k
        · rw [if_pos e, e]
        · rw [if_neg e]; exact hR p (by omega)
    · rintro _ ⟨R, rfl, hR⟩
      have h' := h.rowS (a := 12) (b := 13) R (by omega) (by omega)
      refine ⟨_, ?_, R, rfl, hR⟩
      show f_X5_gatherFriends_L2 sh ln j (mrow μ (12, 13) R) (nI n) = _
      simp (disch := omega) only [Option.bind_some, Option.map_some, Option.bind_none, q_lit, nI_add, pk_mul, q_sub, q_addn, q_cl, q_le, q_lt, q_eq, q_ck, q_cd, q_cb0, q_cb1, q_div, q_rem, q_shl1, q_shr, q_and, q_or, q_tb, if_pos, if_neg, if_true, if_false, not_true, not_false_iff, eq_self, Bool.true_eq_false, Bool.false_eq_true, q_bI0, q_bI1, q_cbI, Nat.or_zero, mst_row, mrow_neA, mrow_neB, mrow_self, q_upd, f_X5_gatherFriends_L2, h'.c1, Nat.le_refl]
  obtain ⟨_, e, R, rfl, hR⟩ := hh
  exact ⟨R, e, hR⟩
theorem k_walk (h : CS ln μ j V n N w0 r) (hL : LN ln) {K T : Nat → Nat} (hM : MK μ K T n) (hK : ∀ p, K p < 512) (hT : ∀ s, T s ≤ s) {x : Nat} (hx : x < n) : ∀ f s, s < f → s < 2 ^ n → ∀ d o, o + d = n → (∀ i, i < o → s.testBit i = false) → Wh (fun z : Int32 × Int32 => f_X5_partnerOf_L12 sh ln j (nI x) μ z.1 z.2) (nI s, nI o) = some (mrw K T n x f s) := by
  have hb := h.1.b
  have h9 := pow_512 hb.2.2.2.2.1
  have hl11 : ln 11 = 512 := hL.2.2.2.2.2.2.2.2.2.2.2.1
  intro f
  induction f with
  | zero => intro s hs; omega
  | succ f ih =>
    intro s hs hs2 d
    induction d with
    | zero =>
      intro o ho hlow
      have o_n : o = n := by omega
      subst o_n
      have s0 : s = 0 := by
        apply Nat.eq_of_testBit_eq
        intro i
        rw [Nat.zero_testBit]
        by_cases hi : i < o
        · exact hlow i hi
        · exact Nat.testBit_lt_two_pow (Nat.lt_of_lt_of_le hs2 (Nat.pow_le_pow_right (by decide) (by omega)))
      subst s0
      refine Wh_end ?_
      show f_X5_partnerOf_L12 sh ln j (nI x) μ (nI 0) (nI o) = _
      simp (disch := omega) only [Option.bind_some, Option.map_some, Option.bind_none, q_lit, nI_add, pk_mul, q_sub, q_addn, q_cl, q_le, q_lt, q_eq, q_ck, q_cd, q_cb0, q_cb1, q_div, q_rem, q_shl1, q_shr, q_and, q_or, q_tb, if_pos, if_neg, if_true, if_false, not_true, not_false_iff, eq_self, Bool.true_eq_false, Bool.false_eq_true, q_bI0, q_bI1, q_cbI, Nat.or_zero, mst_row, mrow_neA, mrow_neB, mrow_self, q_upd, f_X5_partnerOf_L12, h.c1, Nat.le_refl, mrw]
    | succ d ihd =>
      intro o ho hlow
      have on : o < n := by omega
      by_cases co : s.testBit o = true
      · have c0 : s ≠ 0 := fun e => by rw [e] at co; simp at co
        have hto : tz s = o := tz_least s (by omega) o (by omega) co hlow
        have hz := tz_spec s (by omega) c0
        have hzl := hz.2.2.2
        rw [hto] at hz hzl
        have pT : f_X1_at sh ln 11 μ (nI s) = some (nI (T s)) := by rw [k_at (by omega) (by omega), hM.2 s hs2]
        have hin : Wh (fun z : Int32 × Int32 => f_X5_partnerOf_L44 sh ln j (nI x) (nI s) (nI o) μ z.1 z.2) (-nI 1, nI (n - 1)) = some (if tz s = x ∨ fwP K T n s = some x then .inr (if tz s = x then oN (fwP K T n s) else nI (tz s)) else .inl (nI (nxt K T n s), nI (o + 1))) := by
          have hg0 : fstN n (fun q => decide (n - 1 < q) && fwC K T s q) = none := fstN_none (fun i hi => by rw [decide_eq_false (by omega)]; rfl)
          refine Wh_it (n - 1 - o) (fun m => (oN (fstN n (fun q => decide (n - 1 - m < q) && fwC K T s q)), nI (n - 1 - m))) (by rw [Nat.sub_zero, hg0]; rfl) (fun m hm => ?_) ?_
          · obtain ⟨q, hq⟩ : ∃ q, q = n - 1 - m := ⟨_, rfl⟩
            have hqo : o < q := by omega
            have hqn : q < n := by omega
            have hq2 : n - 1 - (m + 1) = q - 1 := by omega
            rw [← hq, hq2]
            show f_X5_partnerOf_L44 sh ln j (nI x) (nI s) (nI o) μ (oN (fstN n (fun i => decide (q < i) && fwC K T s i))) (nI q) = some (.inl (oN (fstN n (fun i => decide (q - 1 < i) && fwC K T s i)), nI (q - 1)))
            have e1 := k_mayPair (sh := sh) (μ := μ) hL hK hM.1 hb.2.2.2.2.1 (show s < 512 by omega) on hqn
            have h2 : andn (andn s (2 ^ o)) (2 ^ q) ≤ andn s (2 ^ o) := andn_le (by omega)
            have po : f_X1_at sh ln 11 μ (nI (andn (andn s (2 ^ o)) (2 ^ q))) = some (nI (T (andn (andn s (2 ^ o)) (2 ^ q)))) := by rw [k_at (by omega) (by omega), hM.2 _ (by omega)]
            have t1 := hT (andn (andn s (2 ^ o)) (2 ^ q))
            have t2 := hT s
            have hfc : fwC K T s q = (mp K s o q && decide (1 + T (andn (andn s (2 ^ o)) (2 ^ q)) = T s)) := by unfold fwC; rw [hto]
            have miss : fwC K T s q = false → fstN n (fun i => decide (q - 1 < i) && fwC K T s i) = fstN n (fun i => decide (q < i) && fwC K T s i) := fun e => fstN_congr (fun i hi => by
              by_cases e2 : i = q
              · rw [e2, e, Bool.and_false, Bool.and_false]
              · have : decide (q - 1 < i) = decide (q < i) := by
                  by_cases c : q < i
                  · rw [decide_eq_true c, decide_eq_true (by omega)]
                  · rw [decide_eq_false c, decide_eq_false (by omega)]
                rw [this])
            by_cases c1 : mp K s o q = true
            · by_cases c2 : 1 + T (andn (andn s (2 ^ o)) (2 ^ q)) = T s
              · have hit : fstN n (fun i => decide (q - 1 < i) && fwC K T s i) = some q := fstN_some hqn (by rw [hfc, c1, decide_eq_true c2, decide_eq_true (by omega)]; rfl) (fun i hi => by rw [decide_eq_false (by omega)]; rfl)
                rw [hit]
                simp (disch := omega) only [Option.bind_some, Option.map_some, Option.bind_none, q_lit, nI_add, pk_mul, q_sub, q_addn, q_cl, q_le, q_lt, q_eq, q_ck, q_cd, q_cb0, q_cb1, q_div, q_rem, q_shl1, q_shr, q_and, q_or, q_tb, if_pos, if_neg, if_true, if_false, not_true, not_false_iff, eq_self, Bool.true_eq_false, Bool.false_eq_true, q_bI0, q_bI1, q_cbI, Nat.or_zero, mst_row, mrow_neA, mrow_neB, mrow_self, q_upd, f_X5_partnerOf_L44, e1, c1, q_andn, andn_or, po, pT, c2]
                rfl
              · rw [miss (by rw [hfc, decide_eq_false c2, Bool.and_false])]
                simp (disch := omega) only [Option.bind_some, Option.map_some, Option.bind_none, q_lit, nI_add, pk_mul, q_sub, q_addn, q_cl, q_le, q_lt, q_eq, q_ck, q_cd, q_cb0, q_cb1, q_div, q_rem, q_shl1, q_shr, q_and, q_or, q_tb, if_pos, if_neg, if_true, if_false, not_true, not_false_iff, eq_self, Bool.true_eq_false, Bool.false_eq_true, q_bI0, q_bI1, q_cbI, Nat.or_zero, mst_row, mrow_neA, mrow_neB, mrow_self, q_upd, f_X5_partnerOf_L44, e1, c1, q_andn, andn_or, po, pT, c2]
            · have c1 := Bool.not_eq_true _ ▸ c1
              rw [miss (by rw [hfc, c1]; rfl)]
              simp (disch := omega) only [Option.bind_some, Option.map_some, Option.bind_none, q_lit, nI_add, pk_mul, q_sub, q_addn, q_cl, q_le, q_lt, q_eq, q_ck, q_cd, q_cb0, q_cb1, q_div, q_rem, q_shl1, q_shr, q_and, q_or, q_tb, if_pos, if_neg, if_true, if_false, not_true, not_false_iff, eq_self, Bool.true_eq_false, Bool.false_eq_true, q_bI0, q_bI1, q_cbI, Nat.or_zero, mst_row, mrow_neA, mrow_neB, mrow_self, q_upd, f_X5_partnerOf_L44, e1, c1]
          · show f_X5_partnerOf_L44 sh ln j (nI x) (nI s) (nI o) μ (oN (fstN n (fun q => decide (n - 1 - (n - 1 - o) < q) && fwC K T s q))) (nI (n - 1 - (n - 1 - o))) = _
            have hfw : fstN n (fun q => decide (n - 1 - (n - 1 - o) < q) && fwC K T s q) = fwP K T n s := by
              unfold fwP
              rw [hto, show n - 1 - (n - 1 - o) = o by omega]
            rw [hfw, show n - 1 - (n - 1 - o) = o by omega, hto]
            cases hf : fwP K T n s with
            | none =>
              have hv : oN none = -nI 1 := rfl
              have hnx : nxt K T n s = andn s (2 ^ o) := by unfold nxt; rw [hf, hto]
              rw [hv, hnx]
              have hxm := m1_9 x (by omega)
              by_cases c1 : o = x
              · rw [if_pos (Or.inl c1), if_pos c1]
                simp (disch := omega) only [Option.bind_some, Option.map_some, Option.bind_none, q_lit, nI_add, pk_mul, q_sub, q_addn, q_cl, q_le, q_lt, q_eq, q_ck, q_cd, q_cb0, q_cb1, q_div, q_rem, q_shl1, q_shr, q_and, q_or, q_tb, if_pos, if_neg, if_true, if_false, not_true, not_false_iff, eq_self, Bool.true_eq_false, Bool.false_eq_true, q_bI0, q_bI1, q_cbI, Nat.or_zero, mst_row, mrow_neA, mrow_neB, mrow_self, q_upd, f_X5_partnerOf_L44, Nat.le_refl, c1]
              · have : ¬ (o = x ∨ (none : Option Nat) = some x) := by simp [c1]
                rw [if_neg this]
                have hxm2 : ¬ -nI 1 = nI x := fun e => hxm e.symm
                simp (disch := omega) only [Option.bind_some, Option.map_some, Option.bind_none, q_lit, nI_add, pk_mul, q_sub, q_addn, q_cl, q_le, q_lt, q_eq, q_ck, q_cd, q_cb0, q_cb1, q_div, q_rem, q_shl1, q_shr, q_and, q_or, q_tb, if_pos, if_neg, if_true, if_false, not_true, not_false_iff, eq_self, Bool.true_eq_false, Bool.false_eq_true, q_bI0, q_bI1, q_cbI, Nat.or_zero, mst_row, mrow_neA, mrow_neB, mrow_self, q_upd, f_X5_partnerOf_L44, Nat.le_refl, c1, if_neg hxm2, q_andn]
            | some q =>
              have hl := fwP_lt hf
              have hv : oN (some q) = nI q := rfl
              have hnx : nxt K T n s = andn (andn s (2 ^ o)) (2 ^ q) := by unfold nxt; rw [hf, hto]
              rw [hv, hnx]
              have hqm := m1_9 q (by omega)
              by_cases c1 : o = x
              · rw [if_pos (Or.inl c1), if_pos c1]
                simp (disch := omega) only [Option.bind_some, Option.map_some, Option.bind_none, q_lit, nI_add, pk_mul, q_sub, q_addn, q_cl, q_le, q_lt, q_eq, q_ck, q_cd, q_cb0, q_cb1, q_div, q_rem, q_shl1, q_shr, q_and, q_or, q_tb, if_pos, if_neg, if_true, if_false, not_true, not_false_iff, eq_self, Bool.true_eq_false, Bool.false_eq_true, q_bI0, q_bI1, q_cbI, Nat.or_zero, mst_row, mrow_neA, mrow_neB, mrow_self, q_upd, f_X5_partnerOf_L44, Nat.le_refl, c1]
              · by_cases c2 : q = x
                · rw [if_pos (Or.inr (by rw [c2])), if_neg c1]
                  simp (disch := omega) only [Option.bind_some, Option.map_some, Option.bind_none, q_lit, nI_add, pk_mul, q_sub, q_addn, q_cl, q_le, q_lt, q_eq, q_ck, q_cd, q_cb0, q_cb1, q_div, q_rem, q_shl1, q_shr, q_and, q_or, q_tb, if_pos, if_neg, if_true, if_false, not_true, not_false_iff, eq_self, Bool.true_eq_false, Bool.false_eq_true, q_bI0, q_bI1, q_cbI, Nat.or_zero, mst_row, mrow_neA, mrow_neB, mrow_self, q_upd, f_X5_partnerOf_L44, Nat.le_refl, c1, c2]
                · have : ¬ (o = x ∨ (some q : Option Nat) = some x) := by simp [c1, c2]
                  rw [if_neg this]
                  simp (disch := omega) only [Option.bind_some, Option.map_some, Option.bind_none, q_lit, nI_add, pk_mul, q_sub, q_addn, q_cl, q_le, q_lt, q_eq, q_ck, q_cd, q_cb0, q_cb1, q_div, q_rem, q_shl1, q_shr, q_and, q_or, q_tb, if_pos, if_neg, if_true, if_false, not_true, not_false_iff, eq_self, Bool.true_eq_false, Bool.false_eq_true, q_bI0, q_bI1, q_cbI, Nat.or_zero, mst_row, mrow_neA, mrow_neB, mrow_self, q_upd, f_X5_partnerOf_L44, Nat.le_refl, c1, c2, if_neg hqm, q_andn, andn_or]
        have es : mrw K T n x (f + 1) s = if s = 0 then -nI 1 else if tz s = x then oN (fwP K T n s) else if fwP K T n s = some x then nI (tz s) else mrw K T n x f (nxt K T n s) := rfl
        rw [es, if_neg c0]
        have step : f_X5_partnerOf_L12 sh ln j (nI x) μ (nI s) (nI o) = some (if tz s = x ∨ fwP K T n s = some x then .inr (if tz s = x then oN (fwP K T n s) else nI (tz s)) else .inl (nI (nxt K T n s), nI (o + 1))) := by
          simp (disch := omega) only [Option.bind_some, Option.map_some, Option.bind_none, q_lit, nI_add, pk_mul, q_sub, q_addn, q_cl, q_le, q_lt, q_eq, q_ck, q_cd, q_cb0, q_cb1, q_div, q_rem, q_shl1, q_shr, q_and, q_or, q_tb, if_pos, if_neg, if_true, if_false, not_true, not_false_iff, eq_self, Bool.true_eq_false, Bool.false_eq_true, q_bI0, q_bI1, q_cbI, Nat.or_zero, mst_row, mrow_neA, mrow_neB, mrow_self, q_upd, f_X5_partnerOf_L12, h.c1, q_tb0, co, hin]
        by_cases c1 : tz s = x
        · rw [if_pos (Or.inl c1), if_pos c1] at step
          rw [if_pos c1]
          exact Wh_end step
        · by_cases c2 : fwP K T n s = some x
          · rw [if_pos (Or.inr c2), if_neg c1] at step
            rw [if_neg c1, if_pos c2]
            exact Wh_end step
          · have hor : ¬ (tz s = x ∨ fwP K T n s = some x) := fun z => z.elim c1 c2
            rw [if_neg hor] at step
            rw [if_neg c1, if_neg c2]
            have hlt := nxt_lt (K := K) (T := T) (n := n) (show s < 512 by omega) c0
            refine Wh_step step (ih _ (by omega) (by omega) d (o + 1) (by omega) (fun i hi => ?_))
            have hlo : (andn s (2 ^ o)).testBit i = false := by
              rw [andn_tb]
              by_cases e : i = o
              · rw [e, Nat.testBit_two_pow_self]; simp
              · rw [hlow i (by omega)]; rfl
            unfold nxt
            rw [hto]
            split
            · exact hlo
            · rw [andn_tb, hlo]; rfl
      · have co := Bool.not_eq_true _ ▸ co
        have step : f_X5_partnerOf_L12 sh ln j (nI x) μ (nI s) (nI o) = some (.inl (nI s, nI (o + 1))) := by
          simp (disch := omega) only [Option.bind_some, Option.map_some, Option.bind_none, q_lit, nI_add, pk_mul, q_sub, q_addn, q_cl, q_le, q_lt, q_eq, q_ck, q_cd, q_cb0, q_cb1, q_div, q_rem, q_shl1, q_shr, q_and, q_or, q_tb, if_pos, if_neg, if_true, if_false, not_true, not_false_iff, eq_self, Bool.true_eq_false, Bool.false_eq_true, q_bI0, q_bI1, q_cbI, Nat.or_zero, mst_row, mrow_neA, mrow_neB, mrow_self, q_upd, f_X5_partnerOf_L12, h.c1, q_tb0, co]
        refine Wh_step step (ihd (o + 1) (by omega) (fun i hi => ?_))
        by_cases e : i = o
        · rw [e]; exact co
        · exact hlow i (by omega)
theorem k_marry (h : CS ln μ j V n N w0 r) (hL : LN ln) {v : Int32} {vo : Option Nat} (hv : (v = -nI 1 ∧ vo = none) ∨ (∃ x, x < n ∧ v = nI x ∧ vo = some x)) : ∃ a, f_X5_marry sh ln j μ v = some (mar r V n N w0 vo, a) ∧ FrC (fun c => c = 11 ∨ c = 13) μ a := by
  have hb := h.1.b
  have h9 := pow_512 hb.2.2.2.2.1
  have hpos := Nat.two_pow_pos n
  have hl11 : ln 11 = 512 := hL.2.2.2.2.2.2.2.2.2.2.2.1
  obtain ⟨R, e1, hR⟩ := k_friends (sh := sh) h hL
  obtain ⟨K, hK⟩ : ∃ K, K = kn r V n N w0 := ⟨_, rfl⟩
  have hK9 : ∀ p, K p < 512 := fun p => by rw [hK]; exact kn_lt hb.2.2.2.2.1
  have h1 := h.rowS (a := 12) (b := 13) R (by omega) (by omega)
  have e2 : f_X1_put sh ln 11 (mrow μ (12, 13) R) (nI 0) (nI 0) = some (mrow (mrow μ (12, 13) R) (12, 11) (upd (mrow μ (12, 13) R (12, 11)) 0 (nI 0))) := k_put (by omega) (by omega)
  have esh : (1 : Int32) <<< (nI n &&& 31) = nI (2 ^ n) := by simp (disch := omega) only [Option.bind_some, Option.map_some, Option.bind_none, q_lit, nI_add, pk_mul, q_sub, q_addn, q_cl, q_le, q_lt, q_eq, q_ck, q_cd, q_cb0, q_cb1, q_div, q_rem, q_shl1, q_shr, q_and, q_or, q_tb, if_pos, if_neg, if_true, if_false, not_true, not_false_iff, eq_self, Bool.true_eq_false, Bool.false_eq_true, q_bI0, q_bI1, q_cbI, Nat.or_zero, mst_row, mrow_neA, mrow_neB, mrow_self, q_upd, ]
  have hA : ∀ p, p < n → R p = nI (K p) := fun p hp => by rw [hK]; exact hR p hp
  have hh : ∃ y, Wh (fun z : Mm × Int32 => f_X5_marry_L24 sh ln j v (nI (2 ^ n)) z.1 z.2) (mrow (mrow μ (12, 13) R) (12, 11) (upd (mrow μ (12, 13) R (12, 11)) 0 (nI 0)), nI 1) = some y ∧ ∃ a, y = (mar r V n N w0 vo, a) ∧ FrC (fun c => c = 11 ∨ c = 13) μ a := by
    refine Wh_inv1 (2 ^ n - 1) (fun k z => ∃ S, z = (mrow (mrow μ (12, 13) R) (12, 11) S, nI (k + 1)) ∧ ∀ s', s' < k + 1 → S s' = nI (prT K n (k + 1) s')) _ ⟨_, rfl, fun s' hs' => ?_⟩ ?_ ?_
    · rw [q_upd, if_pos (by omega), prT_s, updN_ap, if_pos (by omega), if_pos rfl]
    · rintro k _ hk ⟨S, rfl, hS⟩
      obtain ⟨s, hs⟩ : ∃ s, s = k + 1 := ⟨_, rfl⟩
      rw [← hs] at hS ⊢
      have c0 : s ≠ 0 := by omega
      have hs2 : s < 2 ^ n := by omega
      have h' := h1.rowS (a := 12) (b := 11) S (by omega) (by omega)
      have hz := tz_spec s (by omega) c0
      have hzl := hz.2.2.2
      have ht9 : tz s < 9 := hz.1
      have htn : tz s < n := tb_lt hs2 hz.2.1
      have k1 := k_tz (show s < 512 by omega)
      have hTle := prT_le K n s (by omega)
      have at11 : ∀ i, i < s → f_X1_at sh ln 11 (mrow (mrow μ (12, 13) R) (12, 11) S) (nI i) = some (nI (prT K n s i)) := fun i hi => by rw [k_at (by omega) (by omega), mrow_self, hS i hi]
      have e3 : Wh (fun z : Int32 × Int32 => f_X5_marry_L61 sh ln j v (nI (2 ^ n)) (nI s) (nI (tz s)) (mrow (mrow μ (12, 13) R) (12, 11) S) z.1 z.2) (nI (prm K (prT K n s) s (tz s + 1)), nI (tz s + 1)) = some (.inl (mrow (mrow μ (12, 13) R) (12, 11) (upd S s (nI (prm K (prT K n s) s n))), nI (s + 1))) := by
        refine Wh_it (n - (tz s + 1)) (fun m => (nI (prm K (prT K n s) s (tz s + 1 + m)), nI (tz s + 1 + m))) rfl (fun m hm => ?_) ?_
        · obtain ⟨q, hq⟩ : ∃ q, q = tz s + 1 + m := ⟨_, rfl⟩
          have hqn : q < n := by omega
          rw [show tz s + 1 + (m + 1) = q + 1 by omega, ← hq]
          show f_X5_marry_L61 sh ln j v (nI (2 ^ n)) (nI s) (nI (tz s)) (mrow (mrow μ (12, 13) R) (12, 11) S) (nI (prm K (prT K n s) s q)) (nI q) = some (.inl (nI (prm K (prT K n s) s (q + 1)), nI (q + 1)))
          have e4 := k_mayPair (sh := sh) (μ := mrow (mrow μ (12, 13) R) (12, 11) S) hL hK9 (fun p hp => by rw [mrow_neB (by omega), mrow_self]; exact hA p hp) hb.2.2.2.2.1 (show s < 512 by omega) htn hqn
          have h2 : andn (andn s (2 ^ tz s)) (2 ^ q) ≤ andn s (2 ^ tz s) := andn_le (by omega)
          have po := at11 (andn (andn s (2 ^ tz s)) (2 ^ q)) (by omega)
          have t1 := hTle (andn (andn s (2 ^ tz s)) (2 ^ q))
          have t2 : prm K (prT K n s) s q ≤ 512 := by
            have hTq : ∀ m, prm K (prT K n s) s m ≤ 512 := by
              intro m
              induction m with
              | zero => exact Nat.le_trans (hTle _) (by omega)
              | succ m ihm =>
                rw [prm_s]
                split
                · split
                  · have h5 := hTle (andn (andn s (2 ^ tz s)) (2 ^ m))
                    have h6 : andn (andn s (2 ^ tz s)) (2 ^ m) ≤ andn s (2 ^ tz s) := andn_le (by omega)
                    omega
                  · exact ihm
                · exact ihm
            exact hTq q
          rw [prm_s]
          by_cases c1 : mp K s (tz s) q = true
          · rw [if_pos ⟨by omega, c1⟩]
            by_cases c2 : prm K (prT K n s) s q < 1 + prT K n s (andn (andn s (2 ^ tz s)) (2 ^ q))
            · rw [if_pos c2]
              simp (disch := omega) only [Option.bind_some, Option.map_some, Option.bind_none, q_lit, nI_add, pk_mul, q_sub, q_addn, q_cl, q_le, q_lt, q_eq, q_ck, q_cd, q_cb0, q_cb1, q_div, q_rem, q_shl1, q_shr, q_and, q_or, q_tb, if_pos, if_neg, if_true, if_false, not_true, not_false_iff, eq_self, Bool.true_eq_false, Bool.false_eq_true, q_bI0, q_bI1, q_cbI, Nat.or_zero, mst_row, mrow_neA, mrow_neB, mrow_self, q_upd, f_X5_marry_L61, h'.c1, e4, c1, q_andn, andn_or, po]
            · rw [if_neg c2]
              simp (disch := omega) only [Option.bind_some, Option.map_some, Option.bind_none, q_lit, nI_add, pk_mul, q_sub, q_addn, q_cl, q_le, q_lt, q_eq, q_ck, q_cd, q_cb0, q_cb1, q_div, q_rem, q_shl1, q_shr, q_and, q_or, q_tb, if_pos, if_neg, if_true, if_false, not_true, not_false_iff, eq_self, Bool.true_eq_false, Bool.false_eq_true, q_bI0, q_bI1, q_cbI, Nat.or_zero, mst_row, mrow_neA, mrow_neB, mrow_self, q_upd, f_X5_marry_L61, h'.c1, e4, c1, q_andn, andn_or, po]
          · rw [if_neg (fun z => c1 z.2)]
            have c1 := Bool.not_eq_true _ ▸ c1
            simp (disch := omega) only [Option.bind_some, Option.map_some, Option.bind_none, q_lit, nI_add, pk_mul, q_sub, q_addn, q_cl, q_le, q_lt, q_eq, q_ck, q_cd, q_cb0, q_cb1, q_div, q_rem, q_shl1, q_shr, q_and, q_or, q_tb, if_pos, if_neg, if_true, if_false, not_true, not_false_iff, eq_self, Bool.true_eq_false, Bool.false_eq_true, q_bI0, q_bI1, q_cbI, Nat.or_zero, mst_row, mrow_neA, mrow_neB, mrow_self, q_upd, f_X5_marry_L61, h'.c1, e4, c1]
        · rw [show tz s + 1 + (n - (tz s + 1)) = n by omega]
          show f_X5_marry_L61 sh ln j v (nI (2 ^ n)) (nI s) (nI (tz s)) (mrow (mrow μ (12, 13) R) (12, 11) S) (nI (prm K (prT K n s) s n)) (nI n) = _
          have ep : f_X1_put sh ln 11 (mrow (mrow μ (12, 13) R) (12, 11) S) (nI s) (nI (prm K (prT K n s) s n)) = some (mrow (mrow μ (12, 13) R) (12, 11) (upd S s (nI (prm K (prT K n s) s n)))) := by rw [k_put (by omega) (by omega), mrow_self, mrow_mrow]
          simp (disch := omega) only [Option.bind_some, Option.map_some, Option.bind_none, q_lit, nI_add, pk_mul, q_sub, q_addn, q_cl, q_le, q_lt, q_eq, q_ck, q_cd, q_cb0, q_cb1, q_div, q_rem, q_shl1, q_shr, q_and, q_or, q_tb, if_pos, if_neg, if_true, if_false, not_true, not_false_iff, eq_self, Bool.true_eq_false, Bool.false_eq_true, q_bI0, q_bI1, q_cbI, Nat.or_zero, mst_row, mrow_neA, mrow_neB, mrow_self, q_upd, f_X5_marry_L61, h'.c1, Nat.le_refl, ep]
      rw [prm_low (tz s + 1) (Nat.le_refl _)] at e3
      refine ⟨(mrow (mrow μ (12, 13) R) (12, 11) (upd S s (nI (prm K (prT K n s) s n))), nI (s + 1)), ?_, _, rfl, fun s' hs' => ?_⟩
      · show f_X5_marry_L24 sh ln j v (nI (2 ^ n)) (mrow (mrow μ (12, 13) R) (12, 11) S) (nI s) = _
        simp (disch := omega) only [Option.bind_some, Option.map_some, Option.bind_none, q_lit, nI_add, pk_mul, q_sub, q_addn, q_cl, q_le, q_lt, q_eq, q_ck, q_cd, q_cb0, q_cb1, q_div, q_rem, q_shl1, q_shr, q_and, q_or, q_tb, if_pos, if_neg, if_true, if_false, not_true, not_false_iff, eq_self, Bool.true_eq_false, Bool.false_eq_true, q_bI0, q_bI1, q_cbI, Nat.or_zero, mst_row, mrow_neA, mrow_neB, mrow_self, q_upd, f_X5_marry_L24, k1, q_andn, at11 (andn s (2 ^ tz s)) hzl, e3]
      · rw [q_upd, prT_s, updN_ap]
        by_cases e : s' = s
        · rw [if_pos e, if_pos e, if_neg c0]
        · rw [if_neg e, if_neg e]; exact hS s' (by omega)
    · rintro _ ⟨S, rfl, hS⟩
      rw [show 2 ^ n - 1 + 1 = 2 ^ n by omega] at hS ⊢
      have h' := h1.rowS (a := 12) (b := 11) S (by omega) (by omega)
      have hF : FrC (fun c => c = 11 ∨ c = 13) μ (mrow (mrow μ (12, 13) R) (12, 11) S) := (FrC.rf.mr (Or.inr rfl)).mr (Or.inl rfl)
      have hTle := prT_le K n (2 ^ n) h9
      refine ⟨(mar r V n N w0 vo, mrow (mrow μ (12, 13) R) (12, 11) S), ?_, _, rfl, hF⟩
      show f_X5_marry_L24 sh ln j v (nI (2 ^ n)) (mrow (mrow μ (12, 13) R) (12, 11) S) (nI (2 ^ n)) = _
      rcases hv with ⟨rfl, rfl⟩ | ⟨x, hx, rfl, rfl⟩
      · have ea : f_X1_at sh ln 11 (mrow (mrow μ (12, 13) R) (12, 11) S) (nI (2 ^ n - 1)) = some (nI (prT K n (2 ^ n) (2 ^ n - 1))) := by rw [k_at (by omega) (by omega), mrow_self, hS _ (by omega)]
        unfold mar
        rw [← hK]
        simp (disch := omega) only [Option.bind_some, Option.map_some, Option.bind_none, q_lit, nI_add, pk_mul, q_sub, q_addn, q_cl, q_le, q_lt, q_eq, q_ck, q_cd, q_cb0, q_cb1, q_div, q_rem, q_shl1, q_shr, q_and, q_or, q_tb, if_pos, if_neg, if_true, if_false, not_true, not_false_iff, eq_self, Bool.true_eq_false, Bool.false_eq_true, q_bI0, q_bI1, q_cbI, Nat.or_zero, mst_row, mrow_neA, mrow_neB, mrow_self, q_upd, f_X5_marry_L24, Nat.le_refl, ea]
      · have hM : MK (mrow (mrow μ (12, 13) R) (12, 11) S) K (prT K n (2 ^ n)) n := ⟨fun p hp => by rw [mrow_neB (by omega), mrow_self]; exact hA p hp, fun s hs => by rw [mrow_self]; exact hS s hs⟩
        have ew := k_walk (sh := sh) h' hL hM hK9 hTle hx (2 ^ n) (2 ^ n - 1) (by omega) (by omega) n 0 (by omega) (fun i hi => by omega)
        have ep : f_X5_partnerOf sh ln j (mrow (mrow μ (12, 13) R) (12, 11) S) (nI x) = some (mrw K (prT K n (2 ^ n)) n x (2 ^ n) (2 ^ n - 1)) := by
          unfold f_X5_partnerOf
          rw [h'.c1, esh, show nI (2 ^ n) - (1 : Int32) = nI (2 ^ n - 1) from q_sub (b := 1) (by omega)]
          exact ew
        have hxm := m1_9 x (by omega)
        unfold mar
        rw [← hK]
        simp (disch := omega) only [Option.bind_some, Option.map_some, Option.bind_none, q_lit, nI_add, pk_mul, q_sub, q_addn, q_cl, q_le, q_lt, q_eq, q_ck, q_cd, q_cb0, q_cb1, q_div, q_rem, q_shl1, q_shr, q_and, q_or, q_tb, if_pos, if_neg, if_true, if_false, not_true, not_false_iff, eq_self, Bool.true_eq_false, Bool.false_eq_true, q_bI0, q_bI1, q_cbI, Nat.or_zero, mst_row, mrow_neA, mrow_neB, mrow_self, q_upd, f_X5_marry_L24, Nat.le_refl, if_neg hxm, ep]
  obtain ⟨_, e3, a, rfl, hF⟩ := hh
  refine ⟨a, ?_, hF⟩
  rw [f_X5_marry, e1, Option.bind_some, show (0 : Int32) = nI 0 from rfl, e2, Option.bind_some, h1.c1, esh, show (1 : Int32) = nI 1 from rfl, e3]
end MARK
