-- steps, the log, who holds most, who has the fewest
def rch (r : Nat → Int32) (n a : Nat) : Nat → Nat
  | 0 => 2 ^ a
  | k + 1 => rch r n a k ||| orN n (fun p => if (rch r n a k).testBit p = true then se r p else 0)
theorem rch_s (r : Nat → Int32) (n a k : Nat) : rch r n a (k + 1) = rch r n a k ||| orN n (fun p => if (rch r n a k).testBit p = true then se r p else 0) := rfl
theorem rch_lt {V n N w0 : Nat} {r : Nat → Int32} (h : WF V n N w0 r) {a : Nat} (ha : a < n) (k : Nat) : rch r n a k < 2 ^ n := by
  induction k with
  | zero => exact Nat.pow_lt_pow_right (by decide) ha
  | succ k ih =>
    rw [rch_s]
    refine Nat.or_lt_two_pow ih (orN_lt (fun p hp => ?_))
    split
    · exact (h.hs hp).2
    · exact Nat.two_pow_pos n
def arg (f : Nat → Nat) : Nat → Option Nat
  | 0 => none
  | m + 1 => match arg f m with
    | none => some m
    | some b => if f b < f m then some m else some b
def arl (f : Nat → Nat) : Nat → Option Nat
  | 0 => none
  | m + 1 => match arl f m with
    | none => some m
    | some b => if f m < f b then some m else some b
theorem arg_lt {f : Nat → Nat} {m b : Nat} (h : arg f m = some b) : b < m := by
  induction m generalizing b with
  | zero => cases h
  | succ m ih =>
    rw [arg] at h
    cases c : arg f m with
    | none => rw [c] at h; cases h; omega
    | some b' =>
      rw [c] at h
      have := ih c
      dsimp only at h
      split at h
      · cases h; omega
      · cases h; omega
theorem arl_lt {f : Nat → Nat} {m b : Nat} (h : arl f m = some b) : b < m := by
  induction m generalizing b with
  | zero => cases h
  | succ m ih =>
    rw [arl] at h
    cases c : arl f m with
    | none => rw [c] at h; cases h; omega
    | some b' =>
      rw [c] at h
      have := ih c
      dsimp only at h
      split at h
      · cases h; omega
      · cases h; omega
theorem m1_9 : ∀ k, k < 512 → ¬ nI k = -nI 1 := by decide +kernel
theorem bit_01 (x : Int32) : (x &&& nI 1 = nI 0) = ¬ (x &&& nI 1 = nI 1) := by
  obtain ⟨j, hj, e⟩ := pk_andE x (m := nI 1) 1 (by decide +kernel)
  rw [e, q_eq (by omega) (by omega), q_eq (by omega) (by omega)]
  exact propext ⟨fun h => by omega, fun h => by omega⟩
theorem q_hasx (x : Int32) (p : Nat) : f_X11_has x (nI p) = some (bI (decide (x >>> (nI p &&& 31) &&& nI 1 = nI 1))) := by
  unfold f_X11_has
  by_cases c : x >>> (nI p &&& 31) &&& nI 1 = nI 1
  · rw [show (1 : Int32) = nI 1 from rfl, if_pos c, decide_eq_true c]; rfl
  · rw [show (1 : Int32) = nI 1 from rfl, if_neg c, decide_eq_false c]; rfl
def ledB (r : Nat → Int32) (p i : Nat) : Bool := !decide (r (5140 + 5 * i + 4) >>> (nI p &&& 31) &&& nI 1 = nI 1)
def ledV (r : Nat → Int32) (p : Nat) : Int32 := match fstN (lgd r) (ledB r p) with
  | some k => if k = 0 then -nI 1 else nI (k - 1)
  | none => if lgd r = 0 then -nI 1 else nI (lgd r - 1)
section STPQ
variable {μ : Mm} {V n N w0 : Nat} {r : Nat → Int32}
theorem q_steps (h : RS μ V n N w0 r) {p q : Nat} (hp : p < n) (hq : q < n) : Wh (fun z : Int32 × Int32 => f_X11_steps_L43 (nI q) μ z.1 z.2) (nI (2 ^ p), nI 0) = some (oN (fstN n (fun k => (rch r n p k).testBit q)), μ) := by
  have hb := h.2.b
  have h9 := pow_512 hb.2.2.2.2.1
  have hh : ∃ x, Wh (fun z : Int32 × Int32 => f_X11_steps_L43 (nI q) μ z.1 z.2) (nI (2 ^ p), nI 0) = some x ∧ x = (oN (fstN n (fun k => (rch r n p k).testBit q)), μ) := by
    refine Wh_inv n (fun k z => z = (nI (rch r n p k), nI k) ∧ ∀ i, i < k → (rch r n p i).testBit q = false) _ ⟨rfl, fun i hi => by omega⟩ ?_ ?_
    · rintro k _ hk ⟨rfl, hA⟩
      have hlt := rch_lt h.2 hp k
      have e0 := q_has (m := rch r n p k) (p := q) (by omega) (by omega)
      by_cases c : (rch r n p k).testBit q = true
      · right
        refine ⟨(nI k, μ), ?_, by rw [fstN_some hk c hA]; rfl⟩
        show f_X11_steps_L43 (nI q) μ (nI (rch r n p k)) (nI k) = _
        simp (disch := omega) only [Option.bind_some, Option.map_some, Option.bind_none, q_lit, nI_add, pk_mul, q_sub, q_addn, q_cl, q_le, q_lt, q_eq, q_ck, q_cd, q_cb0, q_cb1, q_div, q_rem, q_shl1, q_shr, q_and, q_or, q_tb, if_pos, if_neg, if_true, if_false, not_true, not_false_iff, eq_self, Bool.true_eq_false, Bool.false_eq_true, q_bI0, q_bI1, q_cbI, Nat.or_zero, mst_row, mrow_neA, mrow_neB, mrow_self, q_upd, f_X11_steps_L43, q_people h, e0, c]
      · left
        have c := Bool.not_eq_true _ ▸ c
        have e1 : Wh (fun z : Int32 × Int32 => f_X11_steps_L69 (nI q) (nI (rch r n p k)) (nI k) μ z.1 z.2) (nI (rch r n p k), nI 0) = some (.inl (nI (rch r n p (k + 1)), nI (k + 1))) := by
          refine Wh_it n (fun m => (nI (rch r n p k ||| orN m (fun x => if (rch r n p k).testBit x = true then se r x else 0)), nI m)) (by rw [orN_0, Nat.or_zero]) (fun m hm => ?_) ?_
          · show f_X11_steps_L69 (nI q) (nI (rch r n p k)) (nI k) μ (nI (rch r n p k ||| orN m (fun x => if (rch r n p k).testBit x = true then se r x else 0))) (nI m) = some (.inl (nI (rch r n p k ||| orN (m + 1) (fun x => if (rch r n p k).testBit x = true then se r x else 0)), nI (m + 1)))
            have e2 := q_has (m := rch r n p k) (p := m) (by omega) (by omega)
            rw [orN_s, ← Nat.or_assoc]
            by_cases c2 : (rch r n p k).testBit m = true
            · simp (disch := omega) only [Option.bind_some, Option.map_some, Option.bind_none, q_lit, nI_add, pk_mul, q_sub, q_addn, q_cl, q_le, q_lt, q_eq, q_ck, q_cd, q_cb0, q_cb1, q_div, q_rem, q_shl1, q_shr, q_and, q_or, q_tb, if_pos, if_neg, if_true, if_false, not_true, not_false_iff, eq_self, Bool.true_eq_false, Bool.false_eq_true, q_bI0, q_bI1, q_cbI, Nat.or_zero, mst_row, mrow_neA, mrow_neB, mrow_self, q_upd, f_X11_steps_L69, q_people h, e2, c2, h.1, (h.2.hs hm).1]
            · have c2 := Bool.not_eq_true _ ▸ c2
              simp (disch := omega) only [Option.bind_some, Option.map_some, Option.bind_none, q_lit, nI_add, pk_mul, q_sub, q_addn, q_cl, q_le, q_lt, q_eq, q_ck, q_cd, q_cb0, q_cb1, q_div, q_rem, q_shl1, q_shr, q_and, q_or, q_tb, if_pos, if_neg, if_true, if_false, not_true, not_false_iff, eq_self, Bool.true_eq_false, Bool.false_eq_true, q_bI0, q_bI1, q_cbI, Nat.or_zero, mst_row, mrow_neA, mrow_neB, mrow_self, q_upd, f_X11_steps_L69, q_people h, e2, c2]
          · show f_X11_steps_L69 (nI q) (nI (rch r n p k)) (nI k) μ (nI (rch r n p k ||| orN n (fun x => if (rch r n p k).testBit x = true then se r x else 0))) (nI n) = _
            simp (disch := omega) only [Option.bind_some, Option.map_some, Option.bind_none, q_lit, nI_add, pk_mul, q_sub, q_addn, q_cl, q_le, q_lt, q_eq, q_ck, q_cd, q_cb0, q_cb1, q_div, q_rem, q_shl1, q_shr, q_and, q_or, q_tb, if_pos, if_neg, if_true, if_false, not_true, not_false_iff, eq_self, Bool.true_eq_false, Bool.false_eq_true, q_bI0, q_bI1, q_cbI, Nat.or_zero, mst_row, mrow_neA, mrow_neB, mrow_self, q_upd, f_X11_steps_L69, q_people h, Nat.le_refl]
            rfl
        refine ⟨(nI (rch r n p (k + 1)), nI (k + 1)), ?_, rfl, fun i hi => ?_⟩
        · show f_X11_steps_L43 (nI q) μ (nI (rch r n p k)) (nI k) = _
          simp (disch := omega) only [Option.bind_some, Option.map_some, Option.bind_none, q_lit, nI_add, pk_mul, q_sub, q_addn, q_cl, q_le, q_lt, q_eq, q_ck, q_cd, q_cb0, q_cb1, q_div, q_rem, q_shl1, q_shr, q_and, q_or, q_tb, if_pos, if_neg, if_true, if_false, not_true, not_false_iff, eq_self, Bool.true_eq_false, Bool.false_eq_true, q_bI0, q_bI1, q_cbI, Nat.or_zero, mst_row, mrow_neA, mrow_neB, mrow_self, q_upd, f_X11_steps_L43, q_people h, e0, c, e1]
        · by_cases e : i = k
          · subst e; exact c
          · exact hA i (by omega)
    · rintro _ ⟨rfl, hA⟩
      refine ⟨(-nI 1, μ), ?_, by rw [fstN_none hA]; rfl⟩
      show f_X11_steps_L43 (nI q) μ (nI (rch r n p n)) (nI n) = _
      simp (disch := omega) only [Option.bind_some, Option.map_some, Option.bind_none, q_lit, nI_add, pk_mul, q_sub, q_addn, q_cl, q_le, q_lt, q_eq, q_ck, q_cd, q_cb0, q_cb1, q_div, q_rem, q_shl1, q_shr, q_and, q_or, q_tb, if_pos, if_neg, if_true, if_false, not_true, not_false_iff, eq_self, Bool.true_eq_false, Bool.false_eq_true, q_bI0, q_bI1, q_cbI, Nat.or_zero, mst_row, mrow_neA, mrow_neB, mrow_self, q_upd, f_X11_steps_L43, q_people h, Nat.le_refl]
  obtain ⟨_, e, rfl⟩ := hh
  exact e
theorem q_widest (h : RS μ V n N w0 r) : Wh (fun z : Int32 × Int32 => f_X11_widest_L9 μ z.1 z.2) (-nI 1, nI 0) = some (oN (arg (fun p => cnt N (hld r p w0)) n), μ) := by
  have hb := h.2.b
  refine Wh_it n (fun k => (oN (arg (fun p => cnt N (hld r p w0)) k), nI k)) rfl (fun k hk => ?_) ?_
  · show f_X11_widest_L9 μ (oN (arg (fun p => cnt N (hld r p w0)) k)) (nI k) = some (.inl (oN (arg (fun p => cnt N (hld r p w0)) (k + 1)), nI (k + 1)))
    rw [arg]
    have c1 := cnt_le N (hld r k w0)
    cases c : arg (fun p => cnt N (hld r p w0)) k with
    | none =>
      have hv : oN none = -nI 1 := rfl
      simp (disch := omega) only [Option.bind_some, Option.map_some, Option.bind_none, q_lit, nI_add, pk_mul, q_sub, q_addn, q_cl, q_le, q_lt, q_eq, q_ck, q_cd, q_cb0, q_cb1, q_div, q_rem, q_shl1, q_shr, q_and, q_or, q_tb, if_pos, if_neg, if_true, if_false, not_true, not_false_iff, eq_self, Bool.true_eq_false, Bool.false_eq_true, q_bI0, q_bI1, q_cbI, Nat.or_zero, mst_row, mrow_neA, mrow_neB, mrow_self, q_upd, hv, f_X11_widest_L9, q_people h, if_pos m1_lt]
      rfl
    | some b =>
      have hlt := arg_lt c
      have hv : oN (some b) = nI b := rfl
      have c2 := cnt_le N (hld r b w0)
      by_cases c3 : cnt N (hld r b w0) < cnt N (hld r k w0)
      · simp only [c3, if_true]
        simp (disch := omega) only [Option.bind_some, Option.map_some, Option.bind_none, q_lit, nI_add, pk_mul, q_sub, q_addn, q_cl, q_le, q_lt, q_eq, q_ck, q_cd, q_cb0, q_cb1, q_div, q_rem, q_shl1, q_shr, q_and, q_or, q_tb, if_pos, if_neg, if_true, if_false, not_true, not_false_iff, eq_self, Bool.true_eq_false, Bool.false_eq_true, q_bI0, q_bI1, q_cbI, Nat.or_zero, mst_row, mrow_neA, mrow_neB, mrow_self, q_upd, hv, f_X11_widest_L9, q_people h, q_here h, q_holds h hk hb.2.2.2.2.2, q_holds h (show b < n by omega) hb.2.2.2.2.2]
        rfl
      · simp only [c3, if_false]
        simp (disch := omega) only [Option.bind_some, Option.map_some, Option.bind_none, q_lit, nI_add, pk_mul, q_sub, q_addn, q_cl, q_le, q_lt, q_eq, q_ck, q_cd, q_cb0, q_cb1, q_div, q_rem, q_shl1, q_shr, q_and, q_or, q_tb, if_pos, if_neg, if_true, if_false, not_true, not_false_iff, eq_self, Bool.true_eq_false, Bool.false_eq_true, q_bI0, q_bI1, q_cbI, Nat.or_zero, mst_row, mrow_neA, mrow_neB, mrow_self, q_upd, hv, f_X11_widest_L9, q_people h, q_here h, q_holds h hk hb.2.2.2.2.2, q_holds h (show b < n by omega) hb.2.2.2.2.2]
  · show f_X11_widest_L9 μ (oN (arg (fun p => cnt N (hld r p w0)) n)) (nI n) = _
    simp (disch := omega) only [Option.bind_some, Option.map_some, Option.bind_none, q_lit, nI_add, pk_mul, q_sub, q_addn, q_cl, q_le, q_lt, q_eq, q_ck, q_cd, q_cb0, q_cb1, q_div, q_rem, q_shl1, q_shr, q_and, q_or, q_tb, if_pos, if_neg, if_true, if_false, not_true, not_false_iff, eq_self, Bool.true_eq_false, Bool.false_eq_true, q_bI0, q_bI1, q_cbI, Nat.or_zero, mst_row, mrow_neA, mrow_neB, mrow_self, q_upd, f_X11_widest_L9, q_people h, Nat.le_refl]
theorem q_under (h : RS μ V n N w0 r) : ∃ R, Wh (fun z : Mm × Int32 × Int32 => f_X11_under_L9 z.1 z.2.1 z.2.2) (μ, -nI 1, nI 0) = some (oN (arl (fun p => poA r V n N p w0 n) n), mrow μ (8, 0) R) := by
  have hb := h.2.b
  have hh : ∃ x, Wh (fun z : Mm × Int32 × Int32 => f_X11_under_L9 z.1 z.2.1 z.2.2) (μ, -nI 1, nI 0) = some x ∧ ∃ R, x = (oN (arl (fun p => poA r V n N p w0 n) n), mrow μ (8, 0) R) := by
    refine Wh_inv1 n (fun k z => ∃ R, z = (mrow μ (8, 0) R, oN (arl (fun p => poA r V n N p w0 n) k), nI k)) _ ⟨μ (8, 0), by rw [mrow_id]; rfl⟩ ?_ ?_
    · rintro k _ hk ⟨R, rfl⟩
      have h' := h.row (a := 8) (b := 0) R (by omega)
      obtain ⟨R1, e1⟩ := q_possibleAll h' hk
      have h1 := h'.row (a := 8) (b := 0) R1 (by omega)
      have b1 := poA_le r V n N k w0 n
      have es : arl (fun p => poA r V n N p w0 n) (k + 1) = match arl (fun p => poA r V n N p w0 n) k with | none => some k | some b => if poA r V n N k w0 n < poA r V n N b w0 n then some k else some b := rfl
      cases c : arl (fun p => poA r V n N p w0 n) k with
      | none =>
        rw [c] at es
        have hv : oN none = -nI 1 := rfl
        refine ⟨(mrow μ (8, 0) R, nI k, nI (k + 1)), ?_, R, by rw [es]; rfl⟩
        show f_X11_under_L9 (mrow μ (8, 0) R) (oN none) (nI k) = _
        simp (disch := omega) only [Option.bind_some, Option.map_some, Option.bind_none, q_lit, nI_add, pk_mul, q_sub, q_addn, q_cl, q_le, q_lt, q_eq, q_ck, q_cd, q_cb0, q_cb1, q_div, q_rem, q_shl1, q_shr, q_and, q_or, q_tb, if_pos, if_neg, if_true, if_false, not_true, not_false_iff, eq_self, Bool.true_eq_false, Bool.false_eq_true, q_bI0, q_bI1, q_cbI, Nat.or_zero, mst_row, mrow_neA, mrow_neB, mrow_self, q_upd, hv, f_X11_under_L9, q_people h', if_pos m1_lt]
      | some b =>
        rw [c] at es
        have hlt := arl_lt c
        have hv : oN (some b) = nI b := rfl
        obtain ⟨R2, e2⟩ := q_possibleAll h1 (show b < n by omega)
        have b2 := poA_le r V n N b w0 n
        rw [mrow_mrow] at e1 e2
        rw [mrow_mrow] at e2
        by_cases c3 : poA r V n N k w0 n < poA r V n N b w0 n
        · refine ⟨(mrow μ (8, 0) R2, nI k, nI (k + 1)), ?_, R2, by rw [es]; simp only [c3, if_true]; rfl⟩
          show f_X11_under_L9 (mrow μ (8, 0) R) (oN (some b)) (nI k) = _
          simp (disch := omega) only [Option.bind_some, Option.map_some, Option.bind_none, q_lit, nI_add, pk_mul, q_sub, q_addn, q_cl, q_le, q_lt, q_eq, q_ck, q_cd, q_cb0, q_cb1, q_div, q_rem, q_shl1, q_shr, q_and, q_or, q_tb, if_pos, if_neg, if_true, if_false, not_true, not_false_iff, eq_self, Bool.true_eq_false, Bool.false_eq_true, q_bI0, q_bI1, q_cbI, Nat.or_zero, mst_row, mrow_neA, mrow_neB, mrow_self, q_upd, hv, f_X11_under_L9, q_people h', e1, e2]
        · refine ⟨(mrow μ (8, 0) R2, nI b, nI (k + 1)), ?_, R2, by rw [es]; simp only [c3, if_false]; rfl⟩
          show f_X11_under_L9 (mrow μ (8, 0) R) (oN (some b)) (nI k) = _
          simp (disch := omega) only [Option.bind_some, Option.map_some, Option.bind_none, q_lit, nI_add, pk_mul, q_sub, q_addn, q_cl, q_le, q_lt, q_eq, q_ck, q_cd, q_cb0, q_cb1, q_div, q_rem, q_shl1, q_shr, q_and, q_or, q_tb, if_pos, if_neg, if_true, if_false, not_true, not_false_iff, eq_self, Bool.true_eq_false, Bool.false_eq_true, q_bI0, q_bI1, q_cbI, Nat.or_zero, mst_row, mrow_neA, mrow_neB, mrow_self, q_upd, hv, f_X11_under_L9, q_people h', e1, e2]
    · rintro _ ⟨R, rfl⟩
      have h' := h.row (a := 8) (b := 0) R (by omega)
      refine ⟨_, ?_, R, rfl⟩
      show f_X11_under_L9 (mrow μ (8, 0) R) (oN (arl (fun p => poA r V n N p w0 n) n)) (nI n) = _
      simp (disch := omega) only [Option.bind_some, Option.map_some, Option.bind_none, q_lit, nI_add, pk_mul, q_sub, q_addn, q_cl, q_le, q_lt, q_eq, q_ck, q_cd, q_cb0, q_cb1, q_div, q_rem, q_shl1, q_shr, q_and, q_or, q_tb, if_pos, if_neg, if_true, if_false, not_true, not_false_iff, eq_self, Bool.true_eq_false, Bool.false_eq_true, q_bI0, q_bI1, q_cbI, Nat.or_zero, mst_row, mrow_neA, mrow_neB, mrow_self, q_upd, f_X11_under_L9, q_people h', Nat.le_refl]
  obtain ⟨_, e, R, rfl⟩ := hh
  exact ⟨R, e⟩
theorem q_quiet (h : RS μ V n N w0 r) : ∃ a, RS a V n N w0 r ∧ Fr [1, 8, 9, 27] μ a ∧ Wh (fun z : Mm × Int32 × Int32 => f_X11_quiet_L9 z.1 z.2.1 z.2.2) (μ, nI 0, nI 0) = some (nI (set n (fun q => decide (spl r V n N w0 q = 0))), a) := by
  have hb := h.2.b
  have hh : ∃ x, Wh (fun z : Mm × Int32 × Int32 => f_X11_quiet_L9 z.1 z.2.1 z.2.2) (μ, nI 0, nI 0) = some x ∧ ∃ a, RS a V n N w0 r ∧ Fr [1, 8, 9, 27] μ a ∧ x = (nI (set n (fun q => decide (spl r V n N w0 q = 0))), a) := by
    refine Wh_inv1 n (fun k z => ∃ a, z = (a, nI (set k (fun q => decide (spl r V n N w0 q = 0))), nI k) ∧ RS a V n N w0 r ∧ Fr [1, 8, 9, 27] μ a) _ ⟨μ, rfl, h, Fr.rf⟩ ?_ ?_
    · rintro k _ hk ⟨a, rfl, ha, hF⟩
      obtain ⟨a2, e1, ha2, hF2⟩ := q_spills ha hk
      have hlt : spl r V n N w0 k < 512 := set_512 _ hb.2.2.2.2.1
      refine ⟨(a2, nI (set (k + 1) (fun q => decide (spl r V n N w0 q = 0))), nI (k + 1)), ?_, a2, rfl, ha2, hF.tr hF2⟩
      show f_X11_quiet_L9 a (nI (set k (fun q => decide (spl r V n N w0 q = 0)))) (nI k) = _
      rw [set_s]
      by_cases c : spl r V n N w0 k = 0
      · simp (disch := omega) only [Option.bind_some, Option.map_some, Option.bind_none, q_lit, nI_add, pk_mul, q_sub, q_addn, q_cl, q_le, q_lt, q_eq, q_ck, q_cd, q_cb0, q_cb1, q_div, q_rem, q_shl1, q_shr, q_and, q_or, q_tb, if_pos, if_neg, if_true, if_false, not_true, not_false_iff, eq_self, Bool.true_eq_false, Bool.false_eq_true, q_bI0, q_bI1, q_cbI, Nat.or_zero, mst_row, mrow_neA, mrow_neB, mrow_self, q_upd, f_X11_quiet_L9, q_people ha, e1, c, decide_true]
      · simp (disch := omega) only [Option.bind_some, Option.map_some, Option.bind_none, q_lit, nI_add, pk_mul, q_sub, q_addn, q_cl, q_le, q_lt, q_eq, q_ck, q_cd, q_cb0, q_cb1, q_div, q_rem, q_shl1, q_shr, q_and, q_or, q_tb, if_pos, if_neg, if_true, if_false, not_true, not_false_iff, eq_self, Bool.true_eq_false, Bool.false_eq_true, q_bI0, q_bI1, q_cbI, Nat.or_zero, mst_row, mrow_neA, mrow_neB, mrow_self, q_upd, f_X11_quiet_L9, q_people ha, e1, c, decide_false]
    · rintro _ ⟨a, rfl, ha, hF⟩
      refine ⟨_, ?_, a, ha, hF, rfl⟩
      show f_X11_quiet_L9 a (nI (set n (fun q => decide (spl r V n N w0 q = 0)))) (nI n) = _
      simp (disch := omega) only [Option.bind_some, Option.map_some, Option.bind_none, q_lit, nI_add, pk_mul, q_sub, q_addn, q_cl, q_le, q_lt, q_eq, q_ck, q_cd, q_cb0, q_cb1, q_div, q_rem, q_shl1, q_shr, q_and, q_or, q_tb, if_pos, if_neg, if_true, if_false, not_true, not_false_iff, eq_self, Bool.true_eq_false, Bool.false_eq_true, q_bI0, q_bI1, q_cbI, Nat.or_zero, mst_row, mrow_neA, mrow_neB, mrow_self, q_upd, f_X11_quiet_L9, q_people ha, Nat.le_refl]
  obtain ⟨_, e, a, h1, h2, rfl⟩ := hh
  exact ⟨a, h1, h2, e⟩
theorem q_led (h : RS μ V n N w0 r) {p : Nat} (hp : p < n) : Wh (fun z : Int32 => f_X11_led_L22 (nI p) μ z) (nI 0) = some (ledV r p, μ) := by
  have hb := h.2.b
  have hl := h.2.hlg
  have e9 : μ (1, 0) 9 = nI (lgd r) := by rw [h.1]; exact hl.1
  have hh : ∃ x, Wh (fun z : Int32 => f_X11_led_L22 (nI p) μ z) (nI 0) = some x ∧ x = (ledV r p, μ) := by
    refine Wh_inv (lgd r) (fun k z => z = nI k ∧ ∀ i, i < k → ledB r p i = false) _ ⟨rfl, fun i hi => by omega⟩ ?_ ?_
    · rintro k _ hk ⟨rfl, hA⟩
      have e0 := q_hasx (r (5140 + 5 * k + 4)) p
      by_cases c : ledB r p k = true
      · right
        have cd : decide (r (5140 + 5 * k + 4) >>> (nI p &&& 31) &&& nI 1 = nI 1) = false := by
          unfold ledB at c
          simpa using c
        rw [cd] at e0
        refine ⟨(ledV r p, μ), ?_, rfl⟩
        show f_X11_led_L22 (nI p) μ (nI k) = _
        unfold ledV
        rw [fstN_some hk c hA]
        by_cases c0 : k = 0
        · subst c0
          simp (disch := omega) only [Option.bind_some, Option.map_some, Option.bind_none, q_lit, nI_add, pk_mul, q_sub, q_addn, q_cl, q_le, q_lt, q_eq, q_ck, q_cd, q_cb0, q_cb1, q_div, q_rem, q_shl1, q_shr, q_and, q_or, q_tb, if_pos, if_neg, if_true, if_false, not_true, not_false_iff, eq_self, Bool.true_eq_false, Bool.false_eq_true, q_bI0, q_bI1, q_cbI, Nat.or_zero, mst_row, mrow_neA, mrow_neB, mrow_self, q_upd, f_X11_led_L22, h.1, hl.1, e0, bI_f]
        · simp only [c0, if_false]
          simp (disch := omega) only [Option.bind_some, Option.map_some, Option.bind_none, q_lit, nI_add, pk_mul, q_sub, q_addn, q_cl, q_le, q_lt, q_eq, q_ck, q_cd, q_cb0, q_cb1, q_div, q_rem, q_shl1, q_shr, q_and, q_or, q_tb, if_pos, if_neg, if_true, if_false, not_true, not_false_iff, eq_self, Bool.true_eq_false, Bool.false_eq_true, q_bI0, q_bI1, q_cbI, Nat.or_zero, mst_row, mrow_neA, mrow_neB, mrow_self, q_upd, f_X11_led_L22, h.1, hl.1, e0, bI_f]
      · left
        have c := Bool.not_eq_true _ ▸ c
        have cd : decide (r (5140 + 5 * k + 4) >>> (nI p &&& 31) &&& nI 1 = nI 1) = true := by
          unfold ledB at c
          simpa using c
        rw [cd] at e0
        refine ⟨nI (k + 1), ?_, rfl, fun i hi => ?_⟩
        · show f_X11_led_L22 (nI p) μ (nI k) = _
          simp (disch := omega) only [Option.bind_some, Option.map_some, Option.bind_none, q_lit, nI_add, pk_mul, q_sub, q_addn, q_cl, q_le, q_lt, q_eq, q_ck, q_cd, q_cb0, q_cb1, q_div, q_rem, q_shl1, q_shr, q_and, q_or, q_tb, if_pos, if_neg, if_true, if_false, not_true, not_false_iff, eq_self, Bool.true_eq_false, Bool.false_eq_true, q_bI0, q_bI1, q_cbI, Nat.or_zero, mst_row, mrow_neA, mrow_neB, mrow_self, q_upd, f_X11_led_L22, h.1, hl.1, e0, bI_t]
        · by_cases e : i = k
          · subst e; exact c
          · exact hA i (by omega)
    · rintro _ ⟨rfl, hA⟩
      refine ⟨(ledV r p, μ), ?_, rfl⟩
      show f_X11_led_L22 (nI p) μ (nI (lgd r)) = _
      unfold ledV
      rw [fstN_none hA]
      by_cases c0 : lgd r = 0
      · simp only [c0, if_true]
        rw [c0] at hl
        simp (disch := omega) only [Option.bind_some, Option.map_some, Option.bind_none, q_lit, nI_add, pk_mul, q_sub, q_addn, q_cl, q_le, q_lt, q_eq, q_ck, q_cd, q_cb0, q_cb1, q_div, q_rem, q_shl1, q_shr, q_and, q_or, q_tb, if_pos, if_neg, if_true, if_false, not_true, not_false_iff, eq_self, Bool.true_eq_false, Bool.false_eq_true, q_bI0, q_bI1, q_cbI, Nat.or_zero, mst_row, mrow_neA, mrow_neB, mrow_self, q_upd, f_X11_led_L22, h.1, hl.1]
      · simp only [c0, if_false]
        simp (disch := omega) only [Option.bind_some, Option.map_some, Option.bind_none, q_lit, nI_add, pk_mul, q_sub, q_addn, q_cl, q_le, q_lt, q_eq, q_ck, q_cd, q_cb0, q_cb1, q_div, q_rem, q_shl1, q_shr, q_and, q_or, q_tb, if_pos, if_neg, if_true, if_false, not_true, not_false_iff, eq_self, Bool.true_eq_false, Bool.false_eq_true, q_bI0, q_bI1, q_cbI, Nat.or_zero, mst_row, mrow_neA, mrow_neB, mrow_self, q_upd, f_X11_led_L22, h.1, hl.1, Nat.le_refl]
  obtain ⟨_, e, rfl⟩ := hh
  exact e
end STPQ
/-- the log of a State is that of the row -/
def LG (ln : Nat → Nat) (μ : Mm) (j : Nat) (r : Nat → Int32) : Prop := μ (13, j) 14 = nI (lgd r) ∧ ∃ t, t < 60 ∧ μ (13, j) 15 = nI t ∧ (lgd r = 0 ∨ 300 ≤ ln (15 + 5 * j + 4)) ∧
  ∀ i c, i < lgd r → c < 5 → μ (12, 15 + 5 * j + 4) ((t + 59 - i) % 60 * 5 + c) = r (5140 + 5 * i + c)
theorem ring_up : ∀ t, t < 60 → ∀ i, i < 60 → (i + 1 ≤ t → nI 0 ≤ nI t - nI 1 - nI i ∧ nI t - nI 1 - nI i = nI ((t + 59 - i) % 60)) ∧ (t < i + 1 → ¬ nI 0 ≤ nI t - nI 1 - nI i ∧ nI t - nI 1 - nI i + nI 60 = nI ((t + 59 - i) % 60)) := by decide +kernel
section STPK
variable {sh : Sh} {ln : Nat → Nat} {μ : Mm} {j V n N w0 : Nat} {r : Nat → Int32}
theorem k_noted (h : CS ln μ j V n N w0 r) (hG : LG ln μ j r) {i c : Nat} (hi : i < lgd r) (hc : c < 5) : f_X6_noted sh ln j μ (nI i) (nI c) = some (r (5140 + 5 * i + c)) := by
  have hl := h.1.hlg
  obtain ⟨g14, t, ht, g15, glen, gv⟩ := hG
  have hln : 300 ≤ ln (15 + 5 * j + 4) := glen.resolve_left (by omega)
  have hr := ring_up t ht i (by omega)
  have hm : (t + 59 - i) % 60 < 60 := Nat.mod_lt _ (by omega)
  have ea : f_X1_at sh ln (15 + 5 * j + 4) μ (nI ((t + 59 - i) % 60 * 5 + c)) = some (r (5140 + 5 * i + c)) := by
    rw [k_at (by omega) (h.2.2.1.2 4 (by omega)), gv i c hi hc]
  by_cases cc : i + 1 ≤ t
  · have h1 := hr.1 cc
    have e1 : (nI t - (1 : Int32) - nI i) * (5 : Int32) + nI c = nI ((t + 59 - i) % 60 * 5 + c) := by
      rw [show (1 : Int32) = nI 1 from rfl, h1.2]
      simp (disch := omega) only [Option.bind_some, Option.map_some, Option.bind_none, q_lit, nI_add, pk_mul, q_sub, q_addn, q_cl, q_le, q_lt, q_eq, q_ck, q_cd, q_cb0, q_cb1, q_div, q_rem, q_shl1, q_shr, q_and, q_or, q_tb, if_pos, if_neg, if_true, if_false, not_true, not_false_iff, eq_self, Bool.true_eq_false, Bool.false_eq_true, q_bI0, q_bI1, q_cbI, Nat.or_zero, mst_row, mrow_neA, mrow_neB, mrow_self, q_upd, ]
    unfold f_X6_noted
    rw [g14, g15, if_neg (nI_pos (by omega)), if_pos (nI_lt hi (by omega)), if_pos (show (0 : Int32) ≤ nI t - 1 - nI i from h1.1), e1, ea, Option.bind_some]
  · have h1 := hr.2 (by omega)
    have e1 : (nI t - (1 : Int32) - nI i + (60 : Int32)) * (5 : Int32) + nI c = nI ((t + 59 - i) % 60 * 5 + c) := by
      rw [show (1 : Int32) = nI 1 from rfl, show (60 : Int32) = nI 60 from rfl, h1.2]
      simp (disch := omega) only [Option.bind_some, Option.map_some, Option.bind_none, q_lit, nI_add, pk_mul, q_sub, q_addn, q_cl, q_le, q_lt, q_eq, q_ck, q_cd, q_cb0, q_cb1, q_div, q_rem, q_shl1, q_shr, q_and, q_or, q_tb, if_pos, if_neg, if_true, if_false, not_true, not_false_iff, eq_self, Bool.true_eq_false, Bool.false_eq_true, q_bI0, q_bI1, q_cbI, Nat.or_zero, mst_row, mrow_neA, mrow_neB, mrow_self, q_upd, ]
    unfold f_X6_noted
    rw [g14, g15, if_neg (nI_pos (by omega)), if_pos (nI_lt hi (by omega)), if_neg (show ¬ (0 : Int32) ≤ nI t - 1 - nI i from h1.1), e1, ea, Option.bind_some]
theorem k_steps (h : CS ln μ j V n N w0 r) {p q : Nat} (hp : p < n) (hq : q < n) : f_X5_stepsBetween sh ln j μ (nI p) (nI q) = some (oN (fstN n (fun k => (rch r n p k).testBit q))) := by
  have hb := h.1.b
  have h9 := pow_512 hb.2.2.2.2.1
  have e0 : (1 : Int32) <<< (nI p &&& 31) = nI (2 ^ p) := by simp (disch := omega) only [Option.bind_some, Option.map_some, Option.bind_none, q_lit, nI_add, pk_mul, q_sub, q_addn, q_cl, q_le, q_lt, q_eq, q_ck, q_cd, q_cb0, q_cb1, q_div, q_rem, q_shl1, q_shr, q_and, q_or, q_tb, if_pos, if_neg, if_true, if_false, not_true, not_false_iff, eq_self, Bool.true_eq_false, Bool.false_eq_true, q_bI0, q_bI1, q_cbI, Nat.or_zero, mst_row, mrow_neA, mrow_neB, mrow_self, q_upd, ]
  have hh : ∃ x, f_X5_stepsBetween sh ln j μ (nI p) (nI q) = some x ∧ x = oN (fstN n (fun k => (rch r n p k).testBit q)) := by
    unfold f_X5_stepsBetween
    rw [e0]
    refine Wh_inv n (fun k z => z = (nI (rch r n p k), nI k) ∧ ∀ i, i < k → (rch r n p i).testBit q = false) _ ⟨rfl, fun i hi => by omega⟩ ?_ ?_
    · rintro k _ hk ⟨rfl, hA⟩
      have hlt := rch_lt h.1 hp k
      by_cases c : (rch r n p k).testBit q = true
      · right
        refine ⟨nI k, ?_, by rw [fstN_some hk c hA]; rfl⟩
        show f_X5_stepsBetween_L8 sh ln j (nI q) μ (nI (rch r n p k)) (nI k) = _
        simp (disch := omega) only [Option.bind_some, Option.map_some, Option.bind_none, q_lit, nI_add, pk_mul, q_sub, q_addn, q_cl, q_le, q_lt, q_eq, q_ck, q_cd, q_cb0, q_cb1, q_div, q_rem, q_shl1, q_shr, q_and, q_or, q_tb, if_pos, if_neg, if_true, if_false, not_true, not_false_iff, eq_self, Bool.true_eq_false, Bool.false_eq_true, q_bI0, q_bI1, q_cbI, Nat.or_zero, mst_row, mrow_neA, mrow_neB, mrow_self, q_upd, f_X5_stepsBetween_L8, h.c1, c]
      · left
        have c := Bool.not_eq_true _ ▸ c
        have e1 : Wh (fun z : Int32 × Int32 => f_X5_stepsBetween_L37 sh ln j (nI q) (nI (rch r n p k)) (nI k) μ z.1 z.2) (nI (rch r n p k), nI 0) = some (.inl (nI (rch r n p (k + 1)), nI (k + 1))) := by
          refine Wh_it n (fun m => (nI (rch r n p k ||| orN m (fun x => if (rch r n p k).testBit x = true then se r x else 0)), nI m)) (by rw [orN_0, Nat.or_zero]) (fun m hm => ?_) ?_
          · show f_X5_stepsBetween_L37 sh ln j (nI q) (nI (rch r n p k)) (nI k) μ (nI (rch r n p k ||| orN m (fun x => if (rch r n p k).testBit x = true then se r x else 0))) (nI m) = some (.inl (nI (rch r n p k ||| orN (m + 1) (fun x => if (rch r n p k).testBit x = true then se r x else 0)), nI (m + 1)))
            rw [orN_s, ← Nat.or_assoc]
            by_cases c2 : (rch r n p k).testBit m = true
            · simp (disch := omega) only [Option.bind_some, Option.map_some, Option.bind_none, q_lit, nI_add, pk_mul, q_sub, q_addn, q_cl, q_le, q_lt, q_eq, q_ck, q_cd, q_cb0, q_cb1, q_div, q_rem, q_shl1, q_shr, q_and, q_or, q_tb, if_pos, if_neg, if_true, if_false, not_true, not_false_iff, eq_self, Bool.true_eq_false, Bool.false_eq_true, q_bI0, q_bI1, q_cbI, Nat.or_zero, mst_row, mrow_neA, mrow_neB, mrow_self, q_upd, f_X5_stepsBetween_L37, h.c1, c2, k_sights h hm]
            · have c2 := Bool.not_eq_true _ ▸ c2
              simp (disch := omega) only [Option.bind_some, Option.map_some, Option.bind_none, q_lit, nI_add, pk_mul, q_sub, q_addn, q_cl, q_le, q_lt, q_eq, q_ck, q_cd, q_cb0, q_cb1, q_div, q_rem, q_shl1, q_shr, q_and, q_or, q_tb, if_pos, if_neg, if_true, if_false, not_true, not_false_iff, eq_self, Bool.true_eq_false, Bool.false_eq_true, q_bI0, q_bI1, q_cbI, Nat.or_zero, mst_row, mrow_neA, mrow_neB, mrow_self, q_upd, f_X5_stepsBetween_L37, h.c1, c2]
          · show f_X5_stepsBetween_L37 sh ln j (nI q) (nI (rch r n p k)) (nI k) μ (nI (rch r n p k ||| orN n (fun x => if (rch r n p k).testBit x = true then se r x else 0))) (nI n) = _
            simp (disch := omega) only [Option.bind_some, Option.map_some, Option.bind_none, q_lit, nI_add, pk_mul, q_sub, q_addn, q_cl, q_le, q_lt, q_eq, q_ck, q_cd, q_cb0, q_cb1, q_div, q_rem, q_shl1, q_shr, q_and, q_or, q_tb, if_pos, if_neg, if_true, if_false, not_true, not_false_iff, eq_self, Bool.true_eq_false, Bool.false_eq_true, q_bI0, q_bI1, q_cbI, Nat.or_zero, mst_row, mrow_neA, mrow_neB, mrow_self, q_upd, f_X5_stepsBetween_L37, h.c1, Nat.le_refl]
            rfl
        refine ⟨(nI (rch r n p (k + 1)), nI (k + 1)), ?_, rfl, fun i hi => ?_⟩
        · show f_X5_stepsBetween_L8 sh ln j (nI q) μ (nI (rch r n p k)) (nI k) = _
          simp (disch := omega) only [Option.bind_some, Option.map_some, Option.bind_none, q_lit, nI_add, pk_mul, q_sub, q_addn, q_cl, q_le, q_lt, q_eq, q_ck, q_cd, q_cb0, q_cb1, q_div, q_rem, q_shl1, q_shr, q_and, q_or, q_tb, if_pos, if_neg, if_true, if_false, not_true, not_false_iff, eq_self, Bool.true_eq_false, Bool.false_eq_true, q_bI0, q_bI1, q_cbI, Nat.or_zero, mst_row, mrow_neA, mrow_neB, mrow_self, q_upd, f_X5_stepsBetween_L8, h.c1, c, e1]
        · by_cases e : i = k
          · subst e; exact c
          · exact hA i (by omega)
    · rintro _ ⟨rfl, hA⟩
      refine ⟨-nI 1, ?_, by rw [fstN_none hA]; rfl⟩
      show f_X5_stepsBetween_L8 sh ln j (nI q) μ (nI (rch r n p n)) (nI n) = _
      simp (disch := omega) only [Option.bind_some, Option.map_some, Option.bind_none, q_lit, nI_add, pk_mul, q_sub, q_addn, q_cl, q_le, q_lt, q_eq, q_ck, q_cd, q_cb0, q_cb1, q_div, q_rem, q_shl1, q_shr, q_and, q_or, q_tb, if_pos, if_neg, if_true, if_false, not_true, not_false_iff, eq_self, Bool.true_eq_false, Bool.false_eq_true, q_bI0, q_bI1, q_cbI, Nat.or_zero, mst_row, mrow_neA, mrow_neB, mrow_self, q_upd, f_X5_stepsBetween_L8, h.c1, Nat.le_refl]
  obtain ⟨_, e, rfl⟩ := hh
  exact e
/-- which State is the one that is -/
def NW (sh : Sh) (μ : Mm) (j : Nat) : Prop := μ (0, 0) 9 = nI j ∧ j < 11 ∧ sh 2 j = 1
theorem NW.c {sh : Sh} {μ : Mm} {j : Nat} (h : NW sh μ j) : (μ (0, 0) 9).toNatClampNeg = j := by
  have := h.2.1
  rw [h.1, q_cl (by omega)]
theorem NW.X {sh : Sh} {μ a : Mm} {j : Nat} (h : NW sh μ j) (hF : FrX μ a) : NW sh a j := ⟨by rw [hF (0, 0) (fun e => absurd (congrArg Prod.fst e) (by decide)) (fun x => absurd x.1 (by decide))]; exact h.1, h.2⟩
theorem k_widest (h : CS ln μ j V n N w0 r) (hj : NW sh μ j) : f_X10_widest sh ln μ = some (oN (arg (fun p => cnt N (hld r p w0)) n)) := by
  have hb := h.1.b
  have hw0 := hb.2.2.2.2.2
  unfold f_X10_widest
  refine Wh_it n (fun k => (oN (arg (fun p => cnt N (hld r p w0)) k), (match arg (fun p => cnt N (hld r p w0)) k with | none => nI 0 | some b => nI (cnt N (hld r b w0))), nI k)) rfl (fun k hk => ?_) ?_
  · show f_X10_widest_L6 sh ln μ (oN (arg (fun p => cnt N (hld r p w0)) k)) (match arg (fun p => cnt N (hld r p w0)) k with | none => nI 0 | some b => nI (cnt N (hld r b w0))) (nI k) = some (.inl (oN (arg (fun p => cnt N (hld r p w0)) (k + 1)), (match arg (fun p => cnt N (hld r p w0)) (k + 1) with | none => nI 0 | some b => nI (cnt N (hld r b w0))), nI (k + 1)))
    have c1 := cnt_le N (hld r k w0)
    have cp : 0 < cnt N (hld r k w0) := cnt_pos hw0 (by simp [hld, h.1.h0])
    have es : arg (fun p => cnt N (hld r p w0)) (k + 1) = match arg (fun p => cnt N (hld r p w0)) k with | none => some k | some b => if cnt N (hld r b w0) < cnt N (hld r k w0) then some k else some b := rfl
    rw [es]
    cases c : arg (fun p => cnt N (hld r p w0)) k with
    | none =>
      have hv : oN none = -nI 1 := rfl
      simp (disch := omega) only [Option.bind_some, Option.map_some, Option.bind_none, q_lit, nI_add, pk_mul, q_sub, q_addn, q_cl, q_le, q_lt, q_eq, q_ck, q_cd, q_cb0, q_cb1, q_div, q_rem, q_shl1, q_shr, q_and, q_or, q_tb, if_pos, if_neg, if_true, if_false, not_true, not_false_iff, eq_self, Bool.true_eq_false, Bool.false_eq_true, q_bI0, q_bI1, q_cbI, Nat.or_zero, mst_row, mrow_neA, mrow_neB, mrow_self, q_upd, hv, f_X10_widest_L6, hj.c, ce_in hj.2.2, h.c1, k_holds h hk]
      rfl
    | some b =>
      have hlt := arg_lt c
      have hv : oN (some b) = nI b := rfl
      have c2 := cnt_le N (hld r b w0)
      by_cases c3 : cnt N (hld r b w0) < cnt N (hld r k w0)
      · simp only [c3, if_true]
        simp (disch := omega) only [Option.bind_some, Option.map_some, Option.bind_none, q_lit, nI_add, pk_mul, q_sub, q_addn, q_cl, q_le, q_lt, q_eq, q_ck, q_cd, q_cb0, q_cb1, q_div, q_rem, q_shl1, q_shr, q_and, q_or, q_tb, if_pos, if_neg, if_true, if_false, not_true, not_false_iff, eq_self, Bool.true_eq_false, Bool.false_eq_true, q_bI0, q_bI1, q_cbI, Nat.or_zero, mst_row, mrow_neA, mrow_neB, mrow_self, q_upd, hv, f_X10_widest_L6, hj.c, ce_in hj.2.2, h.c1, k_holds h hk]
        rfl
      · simp only [c3, if_false]
        simp (disch := omega) only [Option.bind_some, Option.map_some, Option.bind_none, q_lit, nI_add, pk_mul, q_sub, q_addn, q_cl, q_le, q_lt, q_eq, q_ck, q_cd, q_cb0, q_cb1, q_div, q_rem, q_shl1, q_shr, q_and, q_or, q_tb, if_pos, if_neg, if_true, if_false, not_true, not_false_iff, eq_self, Bool.true_eq_false, Bool.false_eq_true, q_bI0, q_bI1, q_cbI, Nat.or_zero, mst_row, mrow_neA, mrow_neB, mrow_self, q_upd, hv, f_X10_widest_L6, hj.c, ce_in hj.2.2, h.c1, k_holds h hk]
  · show f_X10_widest_L6 sh ln μ (oN (arg (fun p => cnt N (hld r p w0)) n)) _ (nI n) = _
    simp (disch := omega) only [Option.bind_some, Option.map_some, Option.bind_none, q_lit, nI_add, pk_mul, q_sub, q_addn, q_cl, q_le, q_lt, q_eq, q_ck, q_cd, q_cb0, q_cb1, q_div, q_rem, q_shl1, q_shr, q_and, q_or, q_tb, if_pos, if_neg, if_true, if_false, not_true, not_false_iff, eq_self, Bool.true_eq_false, Bool.false_eq_true, q_bI0, q_bI1, q_cbI, Nat.or_zero, mst_row, mrow_neA, mrow_neB, mrow_self, q_upd, f_X10_widest_L6, hj.c, ce_in hj.2.2, h.c1, Nat.le_refl]
theorem k_under (h : CS ln μ j V n N w0 r) (hj : NW sh μ j) : f_X10_under sh ln μ = some (oN (arl (fun p => poA r V n N p w0 n) n)) := by
  have hb := h.1.b
  have hw0 := hb.2.2.2.2.2
  unfold f_X10_under
  refine Wh_it n (fun k => (oN (arl (fun p => poA r V n N p w0 n) k), (match arl (fun p => poA r V n N p w0 n) k with | none => nI 0 | some b => nI (poA r V n N b w0 n)), nI k)) rfl (fun k hk => ?_) ?_
  · show f_X10_under_L6 sh ln μ (oN (arl (fun p => poA r V n N p w0 n) k)) (match arl (fun p => poA r V n N p w0 n) k with | none => nI 0 | some b => nI (poA r V n N b w0 n)) (nI k) = some (.inl (oN (arl (fun p => poA r V n N p w0 n) (k + 1)), (match arl (fun p => poA r V n N p w0 n) (k + 1) with | none => nI 0 | some b => nI (poA r V n N b w0 n)), nI (k + 1)))
    have b1 := poA_le r V n N k w0 n
    have es : arl (fun p => poA r V n N p w0 n) (k + 1) = match arl (fun p => poA r V n N p w0 n) k with | none => some k | some b => if poA r V n N k w0 n < poA r V n N b w0 n then some k else some b := rfl
    rw [es]
    cases c : arl (fun p => poA r V n N p w0 n) k with
    | none =>
      have hv : oN none = -nI 1 := rfl
      simp (disch := omega) only [Option.bind_some, Option.map_some, Option.bind_none, q_lit, nI_add, pk_mul, q_sub, q_addn, q_cl, q_le, q_lt, q_eq, q_ck, q_cd, q_cb0, q_cb1, q_div, q_rem, q_shl1, q_shr, q_and, q_or, q_tb, if_pos, if_neg, if_true, if_false, not_true, not_false_iff, eq_self, Bool.true_eq_false, Bool.false_eq_true, q_bI0, q_bI1, q_cbI, Nat.or_zero, mst_row, mrow_neA, mrow_neB, mrow_self, q_upd, hv, f_X10_under_L6, hj.c, ce_in hj.2.2, h.c1, k_manyPossible h hk]
      rfl
    | some b =>
      have hlt := arl_lt c
      have hv : oN (some b) = nI b := rfl
      have b2 := poA_le r V n N b w0 n
      have hne := m1_9 b (by omega)
      by_cases c3 : poA r V n N k w0 n < poA r V n N b w0 n
      · simp only [c3, if_true]
        simp (disch := omega) only [Option.bind_some, Option.map_some, Option.bind_none, q_lit, nI_add, pk_mul, q_sub, q_addn, q_cl, q_le, q_lt, q_eq, q_ck, q_cd, q_cb0, q_cb1, q_div, q_rem, q_shl1, q_shr, q_and, q_or, q_tb, if_pos, if_neg, if_true, if_false, not_true, not_false_iff, eq_self, Bool.true_eq_false, Bool.false_eq_true, q_bI0, q_bI1, q_cbI, Nat.or_zero, mst_row, mrow_neA, mrow_neB, mrow_self, q_upd, hv, f_X10_under_L6, hj.c, ce_in hj.2.2, h.c1, k_manyPossible h hk, if_neg hne]
        rfl
      · simp only [c3, if_false]
        simp (disch := omega) only [Option.bind_some, Option.map_some, Option.bind_none, q_lit, nI_add, pk_mul, q_sub, q_addn, q_cl, q_le, q_lt, q_eq, q_ck, q_cd, q_cb0, q_cb1, q_div, q_rem, q_shl1, q_shr, q_and, q_or, q_tb, if_pos, if_neg, if_true, if_false, not_true, not_false_iff, eq_self, Bool.true_eq_false, Bool.false_eq_true, q_bI0, q_bI1, q_cbI, Nat.or_zero, mst_row, mrow_neA, mrow_neB, mrow_self, q_upd, hv, f_X10_under_L6, hj.c, ce_in hj.2.2, h.c1, k_manyPossible h hk, if_neg hne]
  · show f_X10_under_L6 sh ln μ (oN (arl (fun p => poA r V n N p w0 n) n)) _ (nI n) = _
    simp (disch := omega) only [Option.bind_some, Option.map_some, Option.bind_none, q_lit, nI_add, pk_mul, q_sub, q_addn, q_cl, q_le, q_lt, q_eq, q_ck, q_cd, q_cb0, q_cb1, q_div, q_rem, q_shl1, q_shr, q_and, q_or, q_tb, if_pos, if_neg, if_true, if_false, not_true, not_false_iff, eq_self, Bool.true_eq_false, Bool.false_eq_true, q_bI0, q_bI1, q_cbI, Nat.or_zero, mst_row, mrow_neA, mrow_neB, mrow_self, q_upd, f_X10_under_L6, hj.c, ce_in hj.2.2, h.c1, Nat.le_refl]
theorem k_quiet (h : CS ln μ j V n N w0 r) (hL : LN ln) (hj : NW sh μ j) : ∃ a, FrX μ a ∧ f_X10_quiet sh ln μ = some (nI (set n (fun q => decide (spl r V n N w0 q = 0))), a) := by
  have hb := h.1.b
  have hh : ∃ x, f_X10_quiet sh ln μ = some x ∧ ∃ a, FrX μ a ∧ x = (nI (set n (fun q => decide (spl r V n N w0 q = 0))), a) := by
    unfold f_X10_quiet
    refine Wh_inv1 n (fun k z => ∃ a, z = (a, nI (set k (fun q => decide (spl r V n N w0 q = 0))), nI k) ∧ FrX μ a) _ ⟨μ, rfl, FrX.rf⟩ ?_ ?_
    · rintro k _ hk ⟨a, rfl, hF⟩
      have ha := h.X hF
      have hja := hj.X hF
      obtain ⟨C, e1⟩ := k_spilled (sh := sh) ha hL hk
      have hlt : spl r V n N w0 k < 512 := set_512 _ hb.2.2.2.2.1
      refine ⟨(mrow a (12, 4) C, nI (set (k + 1) (fun q => decide (spl r V n N w0 q = 0))), nI (k + 1)), ?_, _, rfl, hF.mr (by omega) (by omega)⟩
      show f_X10_quiet_L4 sh ln a (nI (set k (fun q => decide (spl r V n N w0 q = 0)))) (nI k) = _
      rw [set_s]
      by_cases c : spl r V n N w0 k = 0
      · simp (disch := omega) only [Option.bind_some, Option.map_some, Option.bind_none, q_lit, nI_add, pk_mul, q_sub, q_addn, q_cl, q_le, q_lt, q_eq, q_ck, q_cd, q_cb0, q_cb1, q_div, q_rem, q_shl1, q_shr, q_and, q_or, q_tb, if_pos, if_neg, if_true, if_false, not_true, not_false_iff, eq_self, Bool.true_eq_false, Bool.false_eq_true, q_bI0, q_bI1, q_cbI, Nat.or_zero, mst_row, mrow_neA, mrow_neB, mrow_self, q_upd, f_X10_quiet_L4, hja.c, ce_in hj.2.2, ha.c1, e1, c, decide_true]
      · simp (disch := omega) only [Option.bind_some, Option.map_some, Option.bind_none, q_lit, nI_add, pk_mul, q_sub, q_addn, q_cl, q_le, q_lt, q_eq, q_ck, q_cd, q_cb0, q_cb1, q_div, q_rem, q_shl1, q_shr, q_and, q_or, q_tb, if_pos, if_neg, if_true, if_false, not_true, not_false_iff, eq_self, Bool.true_eq_false, Bool.false_eq_true, q_bI0, q_bI1, q_cbI, Nat.or_zero, mst_row, mrow_neA, mrow_neB, mrow_self, q_upd, f_X10_quiet_L4, hja.c, ce_in hj.2.2, ha.c1, e1, c, decide_false]
    · rintro _ ⟨a, rfl, hF⟩
      have ha := h.X hF
      have hja := hj.X hF
      refine ⟨_, ?_, a, hF, rfl⟩
      show f_X10_quiet_L4 sh ln a (nI (set n (fun q => decide (spl r V n N w0 q = 0)))) (nI n) = _
      simp (disch := omega) only [Option.bind_some, Option.map_some, Option.bind_none, q_lit, nI_add, pk_mul, q_sub, q_addn, q_cl, q_le, q_lt, q_eq, q_ck, q_cd, q_cb0, q_cb1, q_div, q_rem, q_shl1, q_shr, q_and, q_or, q_tb, if_pos, if_neg, if_true, if_false, not_true, not_false_iff, eq_self, Bool.true_eq_false, Bool.false_eq_true, q_bI0, q_bI1, q_cbI, Nat.or_zero, mst_row, mrow_neA, mrow_neB, mrow_self, q_upd, f_X10_quiet_L4, hja.c, ce_in hj.2.2, ha.c1, Nat.le_refl]
  obtain ⟨_, e, a, hF, rfl⟩ := hh
  exact ⟨a, hF, e⟩
theorem k_led (h : CS ln μ j V n N w0 r) (hG : LG ln μ j r) (hj : NW sh μ j) {p : Nat} (hp : p < n) : Wh (fun z : Int32 × Int32 => f_X10_led_L9 sh ln (nI p) μ z.1 z.2) (-nI 1, nI 0) = some (ledV r p) := by
  have hb := h.1.b
  have hl := h.1.hlg
  have hh : ∃ x, Wh (fun z : Int32 × Int32 => f_X10_led_L9 sh ln (nI p) μ z.1 z.2) (-nI 1, nI 0) = some x ∧ x = ledV r p := by
    refine Wh_inv (lgd r) (fun k z => z = (if k = 0 then -nI 1 else nI (k - 1), nI k) ∧ ∀ i, i < k → ledB r p i = false) _ ⟨rfl, fun i hi => by omega⟩ ?_ ?_
    · rintro k _ hk ⟨rfl, hA⟩
      have e0 : f_X6_noted sh ln j μ (nI k) (nI 4) = some (r (5140 + 5 * k + 4)) := k_noted h hG hk (by omega)
      by_cases c : ledB r p k = true
      · right
        have cd : ¬ (r (5140 + 5 * k + 4) >>> (nI p &&& 31) &&& nI 1 = nI 1) := by
          unfold ledB at c
          simpa using c
        have cd : (r (5140 + 5 * k + 4) >>> (nI p &&& 31) &&& nI 1 = nI 0) := by rw [bit_01]; exact cd
        refine ⟨if k = 0 then -nI 1 else nI (k - 1), ?_, ?_⟩
        · show f_X10_led_L9 sh ln (nI p) μ (if k = 0 then -nI 1 else nI (k - 1)) (nI k) = _
          unfold f_X10_led_L9
          rw [hj.c, ce_in hj.2.2, hG.1, if_neg (nI_ge hk (by omega)), ce_in hj.2.2, show (4 : Int32) = nI 4 from rfl, e0, Option.bind_some, show (1 : Int32) = nI 1 from rfl, show (0 : Int32) = nI 0 from rfl, if_pos cd]
          rfl
        · unfold ledV
          rw [fstN_some hk c hA]
      · left
        have c := Bool.not_eq_true _ ▸ c
        have cd : (r (5140 + 5 * k + 4) >>> (nI p &&& 31) &&& nI 1 = nI 1) := by
          unfold ledB at c
          simpa using c
        have cd : ¬ (r (5140 + 5 * k + 4) >>> (nI p &&& 31) &&& nI 1 = nI 0) := by rw [bit_01]; exact fun x => x cd
        refine ⟨(nI k, nI (k + 1)), ?_, by rw [if_neg (by omega)]; rfl, fun i hi => ?_⟩
        · show f_X10_led_L9 sh ln (nI p) μ (if k = 0 then -nI 1 else nI (k - 1)) (nI k) = _
          unfold f_X10_led_L9
          rw [hj.c, ce_in hj.2.2, hG.1, if_neg (nI_ge hk (by omega)), ce_in hj.2.2, show (4 : Int32) = nI 4 from rfl, e0, Option.bind_some, show (1 : Int32) = nI 1 from rfl, show (0 : Int32) = nI 0 from rfl, if_neg cd, nI_add]
        · by_cases e : i = k
          · subst e; exact c
          · exact hA i (by omega)
    · rintro _ ⟨rfl, hA⟩
      refine ⟨if lgd r = 0 then -nI 1 else nI (lgd r - 1), ?_, ?_⟩
      · show f_X10_led_L9 sh ln (nI p) μ (if lgd r = 0 then -nI 1 else nI (lgd r - 1)) (nI (lgd r)) = _
        unfold f_X10_led_L9
        rw [hj.c, ce_in hj.2.2, hG.1, if_pos (Int32.le_refl _)]
        rfl
      · unfold ledV
        rw [fstN_none hA]
  obtain ⟨_, e, rfl⟩ := hh
  exact e
end STPK
