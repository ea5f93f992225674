-- questions: the first one behind which one would be sure
def fstO : Nat → (Nat → Option Nat) → Option Nat
  | 0, _ => none
  | m + 1, f => match fstO m f with
    | some x => some x
    | none => f m
theorem fstO_s {m : Nat} {f : Nat → Option Nat} (h : fstO m f = none) : fstO (m + 1) f = f m := by rw [fstO, h]
theorem fstO_some {m k x : Nat} {f : Nat → Option Nat} (h : fstO k f = none) (hk : k < m) (hf : f k = some x) : fstO m f = some x := by
  induction m with
  | zero => omega
  | succ m ih =>
    by_cases e : k = m
    · subst e; rw [fstO_s h, hf]
    · rw [fstO, ih (by omega)]
theorem fstO_none {m : Nat} {f : Nat → Option Nat} (h : fstO m f = none) : ∀ k, k < m → f k = none := by
  induction m with
  | zero => intro k hk; omega
  | succ m ih =>
    intro k hk
    rw [fstO] at h
    cases c : fstO m f with
    | some x => rw [c] at h; cases h
    | none =>
      rw [c] at h
      by_cases e : k = m
      · subst e; exact h
      · exact ih c k (by omega)
theorem fstO_mem {m x : Nat} {f : Nat → Option Nat} (h : fstO m f = some x) : ∃ k, k < m ∧ f k = some x := by
  induction m with
  | zero => cases h
  | succ m ih =>
    rw [fstO] at h
    cases c : fstO m f with
    | some y =>
      rw [c] at h
      cases h
      obtain ⟨k, hk, hf⟩ := ih c
      exact ⟨k, by omega, hf⟩
    | none => rw [c] at h; exact ⟨m, by omega, h⟩
/-- the answer in a world -/
def qA (S : Nat → Bool) (r : Nat → Int32) (V n N q s v w : Nat) : Nat := ans (poss S (lab r q) (fig V n s) N (lab r q w)) v
theorem qA_le (S : Nat → Bool) (r : Nat → Int32) (V n N q s v w : Nat) : qA S r V n N q s v w ≤ 2 := by
  unfold qA ans
  split
  · omega
  · split <;> omega
def qO (S : Nat → Bool) (r : Nat → Int32) (V n N w0 p q s v : Nat) : Nat := poss (fun w => S w && decide (qA S r V n N q s v w = qA S r V n N q s v w0)) (lab r p) (fig V n p) N (lab r p w0)
def q1 (S : Nat → Bool) (r : Nat → Int32) (V n N w0 p q s v : Nat) : Option Nat := if q ≠ p ∧ s ≠ p ∧ sur (qO S r V n N w0 p q s v) = true then some (100 * q + 10 * s + v) else none
def q2 (S : Nat → Bool) (r : Nat → Int32) (V n N w0 p q s : Nat) : Option Nat := fstO V (q1 S r V n N w0 p q s)
def q3 (S : Nat → Bool) (r : Nat → Int32) (V n N w0 p q : Nat) : Option Nat := fstO n (q2 S r V n N w0 p q)
def q4 (S : Nat → Bool) (r : Nat → Int32) (V n N w0 p : Nat) : Option Nat := fstO n (q3 S r V n N w0 p)
theorem q4_lt {S : Nat → Bool} {r : Nat → Int32} {V n N w0 p x : Nat} (hV : V ≤ 4) (hn : n ≤ 9) (h : q4 S r V n N w0 p = some x) : x < 1000 := by
  obtain ⟨q, hq, h1⟩ := fstO_mem h
  obtain ⟨s, hs, h2⟩ := fstO_mem h1
  obtain ⟨v, hv, h3⟩ := fstO_mem h2
  unfold q1 at h3
  split at h3
  · cases h3; omega
  · cases h3
section QUEQ
variable {μ : Mm} {V n N w0 : Nat} {r : Nat → Int32}
theorem q_own (h : RS μ V n N w0 r) {p q s v : Nat} (hp : p < n) (hC : ∀ w, w < N → lf r w = true → μ (9, 0) w = nI (qA (lf r) r V n N q s v w)) :
    Wh (fun z : Int32 × Int32 => f_X11_questionFor_L73 (nI p) (nI q) (nI s) (nI v) μ z.1 z.2) (nI 0, nI 0) = some (if sur (qO (lf r) r V n N w0 p q s v) = true then .inr (.inr (.inr (nI 100 * nI q + nI 10 * nI s + nI v, μ))) else .inl (μ, nI v + nI 1)) := by
  have hb := h.2.b
  have hw0 := hb.2.2.2.2.2
  have l0 := (h.2.hb hp hw0).2
  have hC0 := hC w0 hw0 h.2.h0
  have a0 := qA_le (lf r) r V n N q s v w0
  refine Wh_it N (fun k => (nI (poss (fun w => lf r w && decide (qA (lf r) r V n N q s v w = qA (lf r) r V n N q s v w0)) (lab r p) (fig V n p) k (lab r p w0)), nI k)) rfl (fun k hk => ?_) ?_
  · show f_X11_questionFor_L73 (nI p) (nI q) (nI s) (nI v) μ (nI (poss (fun w => lf r w && decide (qA (lf r) r V n N q s v w = qA (lf r) r V n N q s v w0)) (lab r p) (fig V n p) k (lab r p w0))) (nI k) = some (.inl (nI (poss (fun w => lf r w && decide (qA (lf r) r V n N q s v w = qA (lf r) r V n N q s v w0)) (lab r p) (fig V n p) (k + 1) (lab r p w0)), nI (k + 1)))
    rw [poss_s]
    have l1 := (h.2.hb hp hk).2
    have hf := fig_lt hb.1 n p k
    by_cases c : lf r k = true
    · have hCk := hC k hk c
      have a1 := qA_le (lf r) r V n N q s v k
      by_cases c2 : qA (lf r) r V n N q s v k = qA (lf r) r V n N q s v w0
      · by_cases c3 : lab r p k = lab r p w0
        · simp (disch := omega) only [Option.bind_some, Option.map_some, Option.bind_none, q_lit, nI_add, pk_mul, q_sub, q_addn, q_cl, q_le, q_lt, q_eq, q_ck, q_cd, q_cb0, q_cb1, q_div, q_rem, q_shl1, q_shr, q_and, q_or, q_tb, if_pos, if_neg, if_true, if_false, not_true, not_false_iff, eq_self, Bool.true_eq_false, Bool.false_eq_true, q_bI0, q_bI1, q_cbI, Nat.or_zero, mst_row, mrow_neA, mrow_neB, mrow_self, q_upd, f_X11_questionFor_L73, q_worlds h, q_here h, q_isLeft h hk, c, hCk, hC0, c2, q_label h hp hk, q_label h hp hw0, c3, q_noticeIn h hp hk, decide_true, Bool.and_self, and_self]
        · simp (disch := omega) only [Option.bind_some, Option.map_some, Option.bind_none, q_lit, nI_add, pk_mul, q_sub, q_addn, q_cl, q_le, q_lt, q_eq, q_ck, q_cd, q_cb0, q_cb1, q_div, q_rem, q_shl1, q_shr, q_and, q_or, q_tb, if_pos, if_neg, if_true, if_false, not_true, not_false_iff, eq_self, Bool.true_eq_false, Bool.false_eq_true, q_bI0, q_bI1, q_cbI, Nat.or_zero, mst_row, mrow_neA, mrow_neB, mrow_self, q_upd, f_X11_questionFor_L73, q_worlds h, q_here h, q_isLeft h hk, c, hCk, hC0, c2, q_label h hp hk, q_label h hp hw0, c3, and_false]
      · simp (disch := omega) only [Option.bind_some, Option.map_some, Option.bind_none, q_lit, nI_add, pk_mul, q_sub, q_addn, q_cl, q_le, q_lt, q_eq, q_ck, q_cd, q_cb0, q_cb1, q_div, q_rem, q_shl1, q_shr, q_and, q_or, q_tb, if_pos, if_neg, if_true, if_false, not_true, not_false_iff, eq_self, Bool.true_eq_false, Bool.false_eq_true, q_bI0, q_bI1, q_cbI, Nat.or_zero, mst_row, mrow_neA, mrow_neB, mrow_self, q_upd, f_X11_questionFor_L73, q_worlds h, q_here h, q_isLeft h hk, c, hCk, hC0, c2, decide_false, Bool.and_false, false_and]
    · have c := Bool.not_eq_true _ ▸ c
      simp (disch := omega) only [Option.bind_some, Option.map_some, Option.bind_none, q_lit, nI_add, pk_mul, q_sub, q_addn, q_cl, q_le, q_lt, q_eq, q_ck, q_cd, q_cb0, q_cb1, q_div, q_rem, q_shl1, q_shr, q_and, q_or, q_tb, if_pos, if_neg, if_true, if_false, not_true, not_false_iff, eq_self, Bool.true_eq_false, Bool.false_eq_true, q_bI0, q_bI1, q_cbI, Nat.or_zero, mst_row, mrow_neA, mrow_neB, mrow_self, q_upd, f_X11_questionFor_L73, q_worlds h, q_isLeft h hk, c, Bool.false_and, false_and]
  · show f_X11_questionFor_L73 (nI p) (nI q) (nI s) (nI v) μ (nI (qO (lf r) r V n N w0 p q s v)) (nI N) = _
    have h16 : qO (lf r) r V n N w0 p q s v < 16 := poss_16 ⟨hb.1, hb.2.1⟩
    have hne : qO (lf r) r V n N w0 p q s v ≠ 0 := poss_ne0 (lf := fun w => lf r w && decide (qA (lf r) r V n N q s v w = qA (lf r) r V n N q s v w0)) hw0 (by simp [h.2.h0])
    have h1 := q_isOne (show qO (lf r) r V n N w0 p q s v < 2147483648 by omega)
    rw [one_sur hne] at h1
    unfold f_X11_questionFor_L73
    rw [q_worlds h, Option.bind_some, if_pos (Int32.le_refl _), h1, Option.bind_some]
    cases sur (qO (lf r) r V n N w0 p q s v) <;> rfl
theorem q_que2 (h : RS μ V n N w0 r) {p q s : Nat} (hp : p < n) (hq : q < n) (hs : s < n) :
    ∃ a, RS a V n N w0 r ∧ Fr [8, 9] μ a ∧ Wh (fun z : Mm × Int32 => f_X11_questionFor_L37 (nI p) (nI q) (nI s) z.1 z.2) (μ, nI 0) = some (match q2 (lf r) r V n N w0 p q s with | some x => .inr (.inr (nI x, a)) | none => .inl (a, nI (s + 1))) := by
  have hb := h.2.b
  have hh : ∃ x, Wh (fun z : Mm × Int32 => f_X11_questionFor_L37 (nI p) (nI q) (nI s) z.1 z.2) (μ, nI 0) = some x ∧ ∃ a, RS a V n N w0 r ∧ Fr [8, 9] μ a ∧ x = (match q2 (lf r) r V n N w0 p q s with | some x => .inr (.inr (nI x, a)) | none => .inl (a, nI (s + 1))) := by
    refine Wh_inv V (fun k z => ∃ a, z = (a, nI k) ∧ RS a V n N w0 r ∧ Fr [8, 9] μ a ∧ fstO k (q1 (lf r) r V n N w0 p q s) = none) _ ⟨μ, rfl, h, Fr.rf, rfl⟩ ?_ ?_
    · rintro k _ hk ⟨a, rfl, ha, hF, hn⟩
      by_cases c1 : q = p
      · left
        refine ⟨(a, nI (k + 1)), ?_, a, rfl, ha, hF, by rw [fstO_s hn]; simp [q1, c1]⟩
        show f_X11_questionFor_L37 (nI p) (nI q) (nI s) a (nI k) = _
        simp (disch := omega) only [Option.bind_some, Option.map_some, Option.bind_none, q_lit, nI_add, pk_mul, q_sub, q_addn, q_cl, q_le, q_lt, q_eq, q_ck, q_cd, q_cb0, q_cb1, q_div, q_rem, q_shl1, q_shr, q_and, q_or, q_tb, if_pos, if_neg, if_true, if_false, not_true, not_false_iff, eq_self, Bool.true_eq_false, Bool.false_eq_true, q_bI0, q_bI1, q_cbI, Nat.or_zero, mst_row, mrow_neA, mrow_neB, mrow_self, q_upd, f_X11_questionFor_L37, q_values ha, c1]
      · by_cases c2 : s = p
        · left
          refine ⟨(a, nI (k + 1)), ?_, a, rfl, ha, hF, by rw [fstO_s hn]; simp [q1, c2]⟩
          show f_X11_questionFor_L37 (nI p) (nI q) (nI s) a (nI k) = _
          simp (disch := omega) only [Option.bind_some, Option.map_some, Option.bind_none, q_lit, nI_add, pk_mul, q_sub, q_addn, q_cl, q_le, q_lt, q_eq, q_ck, q_cd, q_cb0, q_cb1, q_div, q_rem, q_shl1, q_shr, q_and, q_or, q_tb, if_pos, if_neg, if_true, if_false, not_true, not_false_iff, eq_self, Bool.true_eq_false, Bool.false_eq_true, q_bI0, q_bI1, q_cbI, Nat.or_zero, mst_row, mrow_neA, mrow_neB, mrow_self, q_upd, f_X11_questionFor_L37, q_values ha, c1, c2]
        · obtain ⟨R, C, e1, hC⟩ := q_answersCome ha hq hs hk
          have h2 := (ha.row (a := 8) (b := 0) R (by omega)).row (a := 9) (b := 0) C (by omega)
          have e2 := q_own h2 (p := p) (q := q) (s := s) (v := k) hp (fun w hw hl => by rw [mrow_self]; exact hC w hw hl)
          have hF2 : Fr [8, 9] μ (mrow (mrow a (8, 0) R) (9, 0) C) := (hF.mr (by decide)).mr (by decide)
          by_cases c3 : sur (qO (lf r) r V n N w0 p q s k) = true
          · right
            rw [if_pos c3] at e2
            refine ⟨.inr (.inr (nI (100 * q + 10 * s + k), mrow (mrow a (8, 0) R) (9, 0) C)), ?_, _, h2, hF2, ?_⟩
            · show f_X11_questionFor_L37 (nI p) (nI q) (nI s) a (nI k) = _
              simp (disch := omega) only [Option.bind_some, Option.map_some, Option.bind_none, q_lit, nI_add, pk_mul, q_sub, q_addn, q_cl, q_le, q_lt, q_eq, q_ck, q_cd, q_cb0, q_cb1, q_div, q_rem, q_shl1, q_shr, q_and, q_or, q_tb, if_pos, if_neg, if_true, if_false, not_true, not_false_iff, eq_self, Bool.true_eq_false, Bool.false_eq_true, q_bI0, q_bI1, q_cbI, Nat.or_zero, mst_row, mrow_neA, mrow_neB, mrow_self, q_upd, f_X11_questionFor_L37, q_values ha, c1, c2, e1, e2]
            · unfold q2
              rw [fstO_some hn hk (show q1 (lf r) r V n N w0 p q s k = some (100 * q + 10 * s + k) by simp [q1, c1, c2, c3])]
          · left
            rw [if_neg c3] at e2
            refine ⟨(mrow (mrow a (8, 0) R) (9, 0) C, nI (k + 1)), ?_, _, rfl, h2, hF2, by rw [fstO_s hn]; simp [q1, c3]⟩
            show f_X11_questionFor_L37 (nI p) (nI q) (nI s) a (nI k) = _
            simp (disch := omega) only [Option.bind_some, Option.map_some, Option.bind_none, q_lit, nI_add, pk_mul, q_sub, q_addn, q_cl, q_le, q_lt, q_eq, q_ck, q_cd, q_cb0, q_cb1, q_div, q_rem, q_shl1, q_shr, q_and, q_or, q_tb, if_pos, if_neg, if_true, if_false, not_true, not_false_iff, eq_self, Bool.true_eq_false, Bool.false_eq_true, q_bI0, q_bI1, q_cbI, Nat.or_zero, mst_row, mrow_neA, mrow_neB, mrow_self, q_upd, f_X11_questionFor_L37, q_values ha, c1, c2, e1, e2]
    · rintro _ ⟨a, rfl, ha, hF, hn⟩
      refine ⟨.inl (a, nI (s + 1)), ?_, a, ha, hF, ?_⟩
      · show f_X11_questionFor_L37 (nI p) (nI q) (nI s) a (nI V) = _
        simp (disch := omega) only [Option.bind_some, Option.map_some, Option.bind_none, q_lit, nI_add, pk_mul, q_sub, q_addn, q_cl, q_le, q_lt, q_eq, q_ck, q_cd, q_cb0, q_cb1, q_div, q_rem, q_shl1, q_shr, q_and, q_or, q_tb, if_pos, if_neg, if_true, if_false, not_true, not_false_iff, eq_self, Bool.true_eq_false, Bool.false_eq_true, q_bI0, q_bI1, q_cbI, Nat.or_zero, mst_row, mrow_neA, mrow_neB, mrow_self, q_upd, f_X11_questionFor_L37, q_values ha, Nat.le_refl]
      · unfold q2
        rw [hn]
  obtain ⟨_, e, a, h1, h2, rfl⟩ := hh
  exact ⟨a, h1, h2, e⟩
theorem q_que3 (h : RS μ V n N w0 r) {p q : Nat} (hp : p < n) (hq : q < n) :
    ∃ a, RS a V n N w0 r ∧ Fr [8, 9] μ a ∧ Wh (fun z : Mm × Int32 => f_X11_questionFor_L26 (nI p) (nI q) z.1 z.2) (μ, nI 0) = some (match q3 (lf r) r V n N w0 p q with | some x => .inr (nI x, a) | none => .inl (a, nI (q + 1))) := by
  have hb := h.2.b
  have hh : ∃ x, Wh (fun z : Mm × Int32 => f_X11_questionFor_L26 (nI p) (nI q) z.1 z.2) (μ, nI 0) = some x ∧ ∃ a, RS a V n N w0 r ∧ Fr [8, 9] μ a ∧ x = (match q3 (lf r) r V n N w0 p q with | some x => .inr (nI x, a) | none => .inl (a, nI (q + 1))) := by
    refine Wh_inv n (fun k z => ∃ a, z = (a, nI k) ∧ RS a V n N w0 r ∧ Fr [8, 9] μ a ∧ fstO k (q2 (lf r) r V n N w0 p q) = none) _ ⟨μ, rfl, h, Fr.rf, rfl⟩ ?_ ?_
    · rintro k _ hk ⟨a, rfl, ha, hF, hn⟩
      obtain ⟨a2, ha2, hF2, e2⟩ := q_que2 ha hp hq hk
      cases c : q2 (lf r) r V n N w0 p q k with
      | some x =>
        rw [c] at e2
        right
        refine ⟨.inr (nI x, a2), ?_, a2, ha2, hF.tr hF2, ?_⟩
        · show f_X11_questionFor_L26 (nI p) (nI q) a (nI k) = _
          simp (disch := omega) only [Option.bind_some, Option.map_some, Option.bind_none, q_lit, nI_add, pk_mul, q_sub, q_addn, q_cl, q_le, q_lt, q_eq, q_ck, q_cd, q_cb0, q_cb1, q_div, q_rem, q_shl1, q_shr, q_and, q_or, q_tb, if_pos, if_neg, if_true, if_false, not_true, not_false_iff, eq_self, Bool.true_eq_false, Bool.false_eq_true, q_bI0, q_bI1, q_cbI, Nat.or_zero, mst_row, mrow_neA, mrow_neB, mrow_self, q_upd, f_X11_questionFor_L26, q_people ha, e2]
        · unfold q3
          rw [fstO_some hn hk c]
      | none =>
        rw [c] at e2
        left
        refine ⟨(a2, nI (k + 1)), ?_, a2, rfl, ha2, hF.tr hF2, by rw [fstO_s hn, c]⟩
        show f_X11_questionFor_L26 (nI p) (nI q) a (nI k) = _
        simp (disch := omega) only [Option.bind_some, Option.map_some, Option.bind_none, q_lit, nI_add, pk_mul, q_sub, q_addn, q_cl, q_le, q_lt, q_eq, q_ck, q_cd, q_cb0, q_cb1, q_div, q_rem, q_shl1, q_shr, q_and, q_or, q_tb, if_pos, if_neg, if_true, if_false, not_true, not_false_iff, eq_self, Bool.true_eq_false, Bool.false_eq_true, q_bI0, q_bI1, q_cbI, Nat.or_zero, mst_row, mrow_neA, mrow_neB, mrow_self, q_upd, f_X11_questionFor_L26, q_people ha, e2]
    · rintro _ ⟨a, rfl, ha, hF, hn⟩
      refine ⟨.inl (a, nI (q + 1)), ?_, a, ha, hF, ?_⟩
      · show f_X11_questionFor_L26 (nI p) (nI q) a (nI n) = _
        simp (disch := omega) only [Option.bind_some, Option.map_some, Option.bind_none, q_lit, nI_add, pk_mul, q_sub, q_addn, q_cl, q_le, q_lt, q_eq, q_ck, q_cd, q_cb0, q_cb1, q_div, q_rem, q_shl1, q_shr, q_and, q_or, q_tb, if_pos, if_neg, if_true, if_false, not_true, not_false_iff, eq_self, Bool.true_eq_false, Bool.false_eq_true, q_bI0, q_bI1, q_cbI, Nat.or_zero, mst_row, mrow_neA, mrow_neB, mrow_self, q_upd, f_X11_questionFor_L26, q_people ha, Nat.le_refl]
      · unfold q3
        rw [hn]
  obtain ⟨_, e, a, h1, h2, rfl⟩ := hh
  exact ⟨a, h1, h2, e⟩
def qsn (r : Nat → Int32) (V n N w0 p : Nat) : Option Nat := if suR r V n N p w0 = true then none else q4 (lf r) r V n N w0 p
theorem q_question (h : RS μ V n N w0 r) {p : Nat} (hp : p < n) : ∃ a, RS a V n N w0 r ∧ Fr [8, 9] μ a ∧ f_X11_questionFor μ (nI p) = some (oN (qsn r V n N w0 p), a) := by
  have hb := h.2.b
  have hw0 := hb.2.2.2.2.2
  obtain ⟨R, e1⟩ := q_isSure h hp hw0 h.2.h0
  have h0 := h.row (a := 8) (b := 0) R (by omega)
  by_cases cs : suR r V n N p w0 = true
  · refine ⟨_, h0, (by repeat first | exact Fr.rf | refine Fr.mr ?_ (by decide)), ?_⟩
    unfold qsn
    rw [cs] at e1
    simp (disch := omega) only [Option.bind_some, Option.map_some, Option.bind_none, q_lit, nI_add, pk_mul, q_sub, q_addn, q_cl, q_le, q_lt, q_eq, q_ck, q_cd, q_cb0, q_cb1, q_div, q_rem, q_shl1, q_shr, q_and, q_or, q_tb, if_pos, if_neg, if_true, if_false, not_true, not_false_iff, eq_self, Bool.true_eq_false, Bool.false_eq_true, q_bI0, q_bI1, q_cbI, Nat.or_zero, mst_row, mrow_neA, mrow_neB, mrow_self, q_upd, f_X11_questionFor, q_here h, e1, cs, bI_t]
    rfl
  · have cs := Bool.not_eq_true _ ▸ cs
    have hh : ∃ x, Wh (fun z : Mm × Int32 => f_X11_questionFor_L16 (nI p) z.1 z.2) (mrow μ (8, 0) R, nI 0) = some x ∧ ∃ a, RS a V n N w0 r ∧ Fr [8, 9] μ a ∧ x = (oN (q4 (lf r) r V n N w0 p), a) := by
      refine Wh_inv n (fun k z => ∃ a, z = (a, nI k) ∧ RS a V n N w0 r ∧ Fr [8, 9] μ a ∧ fstO k (q3 (lf r) r V n N w0 p) = none) _ ⟨_, rfl, h0, (by repeat first | exact Fr.rf | refine Fr.mr ?_ (by decide)), rfl⟩ ?_ ?_
      · rintro k _ hk ⟨a, rfl, ha, hF, hn⟩
        obtain ⟨a2, ha2, hF2, e2⟩ := q_que3 ha hp hk
        cases c : q3 (lf r) r V n N w0 p k with
        | some x =>
          rw [c] at e2
          right
          refine ⟨(nI x, a2), ?_, a2, ha2, hF.tr hF2, ?_⟩
          · show f_X11_questionFor_L16 (nI p) a (nI k) = _
            simp (disch := omega) only [Option.bind_some, Option.map_some, Option.bind_none, q_lit, nI_add, pk_mul, q_sub, q_addn, q_cl, q_le, q_lt, q_eq, q_ck, q_cd, q_cb0, q_cb1, q_div, q_rem, q_shl1, q_shr, q_and, q_or, q_tb, if_pos, if_neg, if_true, if_false, not_true, not_false_iff, eq_self, Bool.true_eq_false, Bool.false_eq_true, q_bI0, q_bI1, q_cbI, Nat.or_zero, mst_row, mrow_neA, mrow_neB, mrow_self, q_upd, f_X11_questionFor_L16, q_people ha, e2]
          · unfold q4
            rw [fstO_some hn hk c]
            rfl
        | none =>
          rw [c] at e2
          left
          refine ⟨(a2, nI (k + 1)), ?_, a2, rfl, ha2, hF.tr hF2, by rw [fstO_s hn, c]⟩
          show f_X11_questionFor_L16 (nI p) a (nI k) = _
          simp (disch := omega) only [Option.bind_some, Option.map_some, Option.bind_none, q_lit, nI_add, pk_mul, q_sub, q_addn, q_cl, q_le, q_lt, q_eq, q_ck, q_cd, q_cb0, q_cb1, q_div, q_rem, q_shl1, q_shr, q_and, q_or, q_tb, if_pos, if_neg, if_true, if_false, not_true, not_false_iff, eq_self, Bool.true_eq_false, Bool.false_eq_true, q_bI0, q_bI1, q_cbI, Nat.or_zero, mst_row, mrow_neA, mrow_neB, mrow_self, q_upd, f_X11_questionFor_L16, q_people ha, e2]
      · rintro _ ⟨a, rfl, ha, hF, hn⟩
        refine ⟨(-nI 1, a), ?_, a, ha, hF, ?_⟩
        · show f_X11_questionFor_L16 (nI p) a (nI n) = _
          simp (disch := omega) only [Option.bind_some, Option.map_some, Option.bind_none, q_lit, nI_add, pk_mul, q_sub, q_addn, q_cl, q_le, q_lt, q_eq, q_ck, q_cd, q_cb0, q_cb1, q_div, q_rem, q_shl1, q_shr, q_and, q_or, q_tb, if_pos, if_neg, if_true, if_false, not_true, not_false_iff, eq_self, Bool.true_eq_false, Bool.false_eq_true, q_bI0, q_bI1, q_cbI, Nat.or_zero, mst_row, mrow_neA, mrow_neB, mrow_self, q_upd, f_X11_questionFor_L16, q_people ha, Nat.le_refl]
        · unfold q4
          rw [hn]
          rfl
    obtain ⟨_, e, a, h1, h2, rfl⟩ := hh
    refine ⟨a, h1, h2, ?_⟩
    unfold qsn
    rw [cs] at e1
    rw [f_X11_questionFor, q_here h, Option.bind_some, e1, Option.bind_some, if_pos (show bI false = 0 from rfl), if_neg (by rw [cs]; decide), show (0 : Int32) = nI 0 from rfl, e]
end QUEQ
section QUEK
variable {sh : Sh} {ln : Nat → Nat} {μ : Mm} {j V n N w0 : Nat} {r : Nat → Int32} {c : Nat} {S : Nat → Bool}
theorem k_que1 (h : CS ln μ j V n N w0 r) (hL : LN ln) (hc : N ≤ ln c ∧ ln c < 2147483648) (hc2 : c ≠ 2 ∧ c ≠ 4) (hS : ∀ w, w < N → μ (12, c) w = bI (S w)) {p q s v : Nat} (hp : p < n) (hq : q < n) (hs : s < n) (hv : v < V) :
    ∃ R C, f_X4_sayAnswer sh ln j c μ (nI q) (nI s) (nI v) = some (mrow (mrow μ (12, 2) R) (12, 4) C) ∧ (∀ w, w < N → C w = nI (qA S r V n N q s v w)) ∧ f_X4_sureIfHeard sh ln j c (mrow (mrow μ (12, 2) R) (12, 4) C) (nI p) = some (bI (sur (qO S r V n N w0 p q s v))) := by
  have hb := h.1.b
  have hw0 := hb.2.2.2.2.2
  obtain ⟨R, C, e1, hC⟩ := k_sayAnswer (sh := sh) h hL hc hc2.1 hS hq hs hv
  have h2 := (h.rowS (a := 12) (b := 2) R (by omega) (by omega)).rowS (a := 12) (b := 4) C (by omega) (by omega)
  refine ⟨R, C, e1, hC, ?_⟩
  rw [k_sureIfHeard h2 hL hc (S := S) (fun w hw => by rw [mrow_neB (by omega), mrow_neB (by omega)]; exact hS w hw) hp, mrow_self]
  refine congrArg (fun x => some (bI (sur x))) (poss_congr (fun u hu => ?_) (fun u _ _ => rfl) (fun u _ => rfl))
  have a1 := qA_le S r V n N q s v u
  have a0 := qA_le S r V n N q s v w0
  rw [hC u hu, hC w0 hw0]
  show (S u && decide (nI (qA S r V n N q s v u) = nI (qA S r V n N q s v w0))) = _
  simp only [q_eq (show qA S r V n N q s v u < 2147483648 by omega) (show qA S r V n N q s v w0 < 2147483648 by omega)]
theorem k_que2 (h : CS ln μ j V n N w0 r) (hL : LN ln) (hc : N ≤ ln c ∧ ln c < 2147483648) (hc2 : c ≠ 2 ∧ c ≠ 4) (hS : ∀ w, w < N → μ (12, c) w = bI (S w)) {p q s : Nat} (hp : p < n) (hq : q < n) (hs : s < n) :
    ∃ a, CS ln a j V n N w0 r ∧ FrC (fun c => c = 2 ∨ c = 4) μ a ∧ Wh (fun z : Mm × Int32 => f_X5_questionIn_L27 sh ln j c (nI p) (nI q) (nI s) z.1 z.2) (μ, nI 0) = some (match q2 S r V n N w0 p q s with | some x => .inr (.inr (nI x, a)) | none => .inl (a, nI (s + 1))) := by
  have hb := h.1.b
  have hh : ∃ x, Wh (fun z : Mm × Int32 => f_X5_questionIn_L27 sh ln j c (nI p) (nI q) (nI s) z.1 z.2) (μ, nI 0) = some x ∧ ∃ a, CS ln a j V n N w0 r ∧ FrC (fun c => c = 2 ∨ c = 4) μ a ∧ x = (match q2 S r V n N w0 p q s with | some x => .inr (.inr (nI x, a)) | none => .inl (a, nI (s + 1))) := by
    by_cases cx : q = p ∨ s = p
    · have hn : q2 S r V n N w0 p q s = none := by
        have : ∀ k, fstO k (q1 S r V n N w0 p q s) = none := fun k => by
          induction k with
          | zero => rfl
          | succ k ih =>
            rw [fstO_s ih]
            rcases cx with cx | cx <;> simp [q1, cx]
        exact this V
      refine ⟨.inl (μ, nI (s + 1)), Wh_end ?_, μ, h, FrC.rf, by rw [hn]⟩
      show f_X5_questionIn_L27 sh ln j c (nI p) (nI q) (nI s) μ (nI 0) = _
      by_cases c1 : q = p
      · simp (disch := omega) only [Option.bind_some, Option.map_some, Option.bind_none, q_lit, nI_add, pk_mul, q_sub, q_addn, q_cl, q_le, q_lt, q_eq, q_ck, q_cd, q_cb0, q_cb1, q_div, q_rem, q_shl1, q_shr, q_and, q_or, q_tb, if_pos, if_neg, if_true, if_false, not_true, not_false_iff, eq_self, Bool.true_eq_false, Bool.false_eq_true, q_bI0, q_bI1, q_cbI, Nat.or_zero, mst_row, mrow_neA, mrow_neB, mrow_self, q_upd, f_X5_questionIn_L27, h.c0, c1]
      · have c2 : s = p := cx.resolve_left c1
        simp (disch := omega) only [Option.bind_some, Option.map_some, Option.bind_none, q_lit, nI_add, pk_mul, q_sub, q_addn, q_cl, q_le, q_lt, q_eq, q_ck, q_cd, q_cb0, q_cb1, q_div, q_rem, q_shl1, q_shr, q_and, q_or, q_tb, if_pos, if_neg, if_true, if_false, not_true, not_false_iff, eq_self, Bool.true_eq_false, Bool.false_eq_true, q_bI0, q_bI1, q_cbI, Nat.or_zero, mst_row, mrow_neA, mrow_neB, mrow_self, q_upd, f_X5_questionIn_L27, h.c0, c1, c2]
    · have c1 : ¬ q = p := fun e => cx (Or.inl e)
      have c2 : ¬ s = p := fun e => cx (Or.inr e)
      refine Wh_inv V (fun k z => ∃ a, z = (a, nI k) ∧ CS ln a j V n N w0 r ∧ FrC (fun c => c = 2 ∨ c = 4) μ a ∧ fstO k (q1 S r V n N w0 p q s) = none) _ ⟨μ, rfl, h, FrC.rf, rfl⟩ ?_ ?_
      · rintro k _ hk ⟨a, rfl, ha, hF, hn⟩
        obtain ⟨R, C, e1, hC, e2⟩ := k_que1 (sh := sh) ha hL hc hc2 (fun w hw => by rw [hF.ce (by omega)]; exact hS w hw) hp hq hs hk
        have h2 := (ha.rowS (a := 12) (b := 2) R (by omega) (by omega)).rowS (a := 12) (b := 4) C (by omega) (by omega)
        have hF2 : FrC (fun c => c = 2 ∨ c = 4) μ (mrow (mrow a (12, 2) R) (12, 4) C) := (hF.mr (Or.inl rfl)).mr (Or.inr rfl)
        by_cases c3 : sur (qO S r V n N w0 p q s k) = true
        · right
          refine ⟨.inr (.inr (nI (100 * q + 10 * s + k), mrow (mrow a (12, 2) R) (12, 4) C)), ?_, _, h2, hF2, ?_⟩
          · show f_X5_questionIn_L27 sh ln j c (nI p) (nI q) (nI s) a (nI k) = _
            simp (disch := omega) only [Option.bind_some, Option.map_some, Option.bind_none, q_lit, nI_add, pk_mul, q_sub, q_addn, q_cl, q_le, q_lt, q_eq, q_ck, q_cd, q_cb0, q_cb1, q_div, q_rem, q_shl1, q_shr, q_and, q_or, q_tb, if_pos, if_neg, if_true, if_false, not_true, not_false_iff, eq_self, Bool.true_eq_false, Bool.false_eq_true, q_bI0, q_bI1, q_cbI, Nat.or_zero, mst_row, mrow_neA, mrow_neB, mrow_self, q_upd, f_X5_questionIn_L27, ha.c0, c1, c2, e1, e2, c3]
          · unfold q2
            rw [fstO_some hn hk (show q1 S r V n N w0 p q s k = some (100 * q + 10 * s + k) by simp [q1, c1, c2, c3])]
        · left
          have c3 := Bool.not_eq_true _ ▸ c3
          refine ⟨(mrow (mrow a (12, 2) R) (12, 4) C, nI (k + 1)), ?_, _, rfl, h2, hF2, by rw [fstO_s hn]; simp [q1, c3]⟩
          show f_X5_questionIn_L27 sh ln j c (nI p) (nI q) (nI s) a (nI k) = _
          simp (disch := omega) only [Option.bind_some, Option.map_some, Option.bind_none, q_lit, nI_add, pk_mul, q_sub, q_addn, q_cl, q_le, q_lt, q_eq, q_ck, q_cd, q_cb0, q_cb1, q_div, q_rem, q_shl1, q_shr, q_and, q_or, q_tb, if_pos, if_neg, if_true, if_false, not_true, not_false_iff, eq_self, Bool.true_eq_false, Bool.false_eq_true, q_bI0, q_bI1, q_cbI, Nat.or_zero, mst_row, mrow_neA, mrow_neB, mrow_self, q_upd, f_X5_questionIn_L27, ha.c0, c1, c2, e1, e2, c3]
      · rintro _ ⟨a, rfl, ha, hF, hn⟩
        refine ⟨.inl (a, nI (s + 1)), ?_, a, ha, hF, ?_⟩
        · show f_X5_questionIn_L27 sh ln j c (nI p) (nI q) (nI s) a (nI V) = _
          simp (disch := omega) only [Option.bind_some, Option.map_some, Option.bind_none, q_lit, nI_add, pk_mul, q_sub, q_addn, q_cl, q_le, q_lt, q_eq, q_ck, q_cd, q_cb0, q_cb1, q_div, q_rem, q_shl1, q_shr, q_and, q_or, q_tb, if_pos, if_neg, if_true, if_false, not_true, not_false_iff, eq_self, Bool.true_eq_false, Bool.false_eq_true, q_bI0, q_bI1, q_cbI, Nat.or_zero, mst_row, mrow_neA, mrow_neB, mrow_self, q_upd, f_X5_questionIn_L27, ha.c0, Nat.le_refl]
        · unfold q2
          rw [hn]
  obtain ⟨_, e, a, h1, h2, rfl⟩ := hh
  exact ⟨a, h1, h2, e⟩
theorem k_que3 (h : CS ln μ j V n N w0 r) (hL : LN ln) (hc : N ≤ ln c ∧ ln c < 2147483648) (hc2 : c ≠ 2 ∧ c ≠ 4) (hS : ∀ w, w < N → μ (12, c) w = bI (S w)) {p q : Nat} (hp : p < n) (hq : q < n) :
    ∃ a, CS ln a j V n N w0 r ∧ FrC (fun c => c = 2 ∨ c = 4) μ a ∧ Wh (fun z : Mm × Int32 => f_X5_questionIn_L15 sh ln j c (nI p) (nI q) z.1 z.2) (μ, nI 0) = some (match q3 S r V n N w0 p q with | some x => .inr (nI x, a) | none => .inl (a, nI (q + 1))) := by
  have hb := h.1.b
  have hh : ∃ x, Wh (fun z : Mm × Int32 => f_X5_questionIn_L15 sh ln j c (nI p) (nI q) z.1 z.2) (μ, nI 0) = some x ∧ ∃ a, CS ln a j V n N w0 r ∧ FrC (fun c => c = 2 ∨ c = 4) μ a ∧ x = (match q3 S r V n N w0 p q with | some x => .inr (nI x, a) | none => .inl (a, nI (q + 1))) := by
    refine Wh_inv n (fun k z => ∃ a, z = (a, nI k) ∧ CS ln a j V n N w0 r ∧ FrC (fun c => c = 2 ∨ c = 4) μ a ∧ fstO k (q2 S r V n N w0 p q) = none) _ ⟨μ, rfl, h, FrC.rf, rfl⟩ ?_ ?_
    · rintro k _ hk ⟨a, rfl, ha, hF, hn⟩
      obtain ⟨a2, ha2, hF2, e2⟩ := k_que2 (sh := sh) ha hL hc hc2 (fun w hw => by rw [hF.ce (by omega)]; exact hS w hw) hp hq hk
      cases cc : q2 S r V n N w0 p q k with
      | some x =>
        rw [cc] at e2
        right
        refine ⟨.inr (nI x, a2), ?_, a2, ha2, hF.tr hF2, ?_⟩
        · show f_X5_questionIn_L15 sh ln j c (nI p) (nI q) a (nI k) = _
          simp (disch := omega) only [Option.bind_some, Option.map_some, Option.bind_none, q_lit, nI_add, pk_mul, q_sub, q_addn, q_cl, q_le, q_lt, q_eq, q_ck, q_cd, q_cb0, q_cb1, q_div, q_rem, q_shl1, q_shr, q_and, q_or, q_tb, if_pos, if_neg, if_true, if_false, not_true, not_false_iff, eq_self, Bool.true_eq_false, Bool.false_eq_true, q_bI0, q_bI1, q_cbI, Nat.or_zero, mst_row, mrow_neA, mrow_neB, mrow_self, q_upd, f_X5_questionIn_L15, ha.c1, e2]
        · unfold q3
          rw [fstO_some hn hk cc]
      | none =>
        rw [cc] at e2
        left
        refine ⟨(a2, nI (k + 1)), ?_, a2, rfl, ha2, hF.tr hF2, by rw [fstO_s hn, cc]⟩
        show f_X5_questionIn_L15 sh ln j c (nI p) (nI q) a (nI k) = _
        simp (disch := omega) only [Option.bind_some, Option.map_some, Option.bind_none, q_lit, nI_add, pk_mul, q_sub, q_addn, q_cl, q_le, q_lt, q_eq, q_ck, q_cd, q_cb0, q_cb1, q_div, q_rem, q_shl1, q_shr, q_and, q_or, q_tb, if_pos, if_neg, if_true, if_false, not_true, not_false_iff, eq_self, Bool.true_eq_false, Bool.false_eq_true, q_bI0, q_bI1, q_cbI, Nat.or_zero, mst_row, mrow_neA, mrow_neB, mrow_self, q_upd, f_X5_questionIn_L15, ha.c1, e2]
    · rintro _ ⟨a, rfl, ha, hF, hn⟩
      refine ⟨.inl (a, nI (q + 1)), ?_, a, ha, hF, ?_⟩
      · show f_X5_questionIn_L15 sh ln j c (nI p) (nI q) a (nI n) = _
        simp (disch := omega) only [Option.bind_some, Option.map_some, Option.bind_none, q_lit, nI_add, pk_mul, q_sub, q_addn, q_cl, q_le, q_lt, q_eq, q_ck, q_cd, q_cb0, q_cb1, q_div, q_rem, q_shl1, q_shr, q_and, q_or, q_tb, if_pos, if_neg, if_true, if_false, not_true, not_false_iff, eq_self, Bool.true_eq_false, Bool.false_eq_true, q_bI0, q_bI1, q_cbI, Nat.or_zero, mst_row, mrow_neA, mrow_neB, mrow_self, q_upd, f_X5_questionIn_L15, ha.c1, Nat.le_refl]
      · unfold q3
        rw [hn]
  obtain ⟨_, e, a, h1, h2, rfl⟩ := hh
  exact ⟨a, h1, h2, e⟩
theorem k_que4 (h : CS ln μ j V n N w0 r) (hL : LN ln) (hc : N ≤ ln c ∧ ln c < 2147483648) (hc2 : c ≠ 2 ∧ c ≠ 4) (hS : ∀ w, w < N → μ (12, c) w = bI (S w)) {p : Nat} (hp : p < n) :
    ∃ a, CS ln a j V n N w0 r ∧ FrC (fun c => c = 2 ∨ c = 4) μ a ∧ f_X5_questionIn sh ln j c μ (nI p) = some (oN (q4 S r V n N w0 p), a) := by
  have hb := h.1.b
  have hh : ∃ x, f_X5_questionIn sh ln j c μ (nI p) = some x ∧ ∃ a, CS ln a j V n N w0 r ∧ FrC (fun c => c = 2 ∨ c = 4) μ a ∧ x = (oN (q4 S r V n N w0 p), a) := by
    unfold f_X5_questionIn
    refine Wh_inv n (fun k z => ∃ a, z = (a, nI k) ∧ CS ln a j V n N w0 r ∧ FrC (fun c => c = 2 ∨ c = 4) μ a ∧ fstO k (q3 S r V n N w0 p) = none) _ ⟨μ, rfl, h, FrC.rf, rfl⟩ ?_ ?_
    · rintro k _ hk ⟨a, rfl, ha, hF, hn⟩
      obtain ⟨a2, ha2, hF2, e2⟩ := k_que3 (sh := sh) ha hL hc hc2 (fun w hw => by rw [hF.ce (by omega)]; exact hS w hw) hp hk
      cases cc : q3 S r V n N w0 p k with
      | some x =>
        rw [cc] at e2
        right
        refine ⟨(nI x, a2), ?_, a2, ha2, hF.tr hF2, ?_⟩
        · show f_X5_questionIn_L3 sh ln j c (nI p) a (nI k) = _
          simp (disch := omega) only [Option.bind_some, Option.map_some, Option.bind_none, q_lit, nI_add, pk_mul, q_sub, q_addn, q_cl, q_le, q_lt, q_eq, q_ck, q_cd, q_cb0, q_cb1, q_div, q_rem, q_shl1, q_shr, q_and, q_or, q_tb, if_pos, if_neg, if_true, if_false, not_true, not_false_iff, eq_self, Bool.true_eq_false, Bool.false_eq_true, q_bI0, q_bI1, q_cbI, Nat.or_zero, mst_row, mrow_neA, mrow_neB, mrow_self, q_upd, f_X5_questionIn_L3, ha.c1, e2]
        · unfold q4
          rw [fstO_some hn hk cc]
          rfl
      | none =>
        rw [cc] at e2
        left
        refine ⟨(a2, nI (k + 1)), ?_, a2, rfl, ha2, hF.tr hF2, by rw [fstO_s hn, cc]⟩
        show f_X5_questionIn_L3 sh ln j c (nI p) a (nI k) = _
        simp (disch := omega) only [Option.bind_some, Option.map_some, Option.bind_none, q_lit, nI_add, pk_mul, q_sub, q_addn, q_cl, q_le, q_lt, q_eq, q_ck, q_cd, q_cb0, q_cb1, q_div, q_rem, q_shl1, q_shr, q_and, q_or, q_tb, if_pos, if_neg, if_true, if_false, not_true, not_false_iff, eq_self, Bool.true_eq_false, Bool.false_eq_true, q_bI0, q_bI1, q_cbI, Nat.or_zero, mst_row, mrow_neA, mrow_neB, mrow_self, q_upd, f_X5_questionIn_L3, ha.c1, e2]
    · rintro _ ⟨a, rfl, ha, hF, hn⟩
      refine ⟨(-nI 1, a), ?_, a, ha, hF, ?_⟩
      · show f_X5_questionIn_L3 sh ln j c (nI p) a (nI n) = _
        simp (disch := omega) only [Option.bind_some, Option.map_some, Option.bind_none, q_lit, nI_add, pk_mul, q_sub, q_addn, q_cl, q_le, q_lt, q_eq, q_ck, q_cd, q_cb0, q_cb1, q_div, q_rem, q_shl1, q_shr, q_and, q_or, q_tb, if_pos, if_neg, if_true, if_false, not_true, not_false_iff, eq_self, Bool.true_eq_false, Bool.false_eq_true, q_bI0, q_bI1, q_cbI, Nat.or_zero, mst_row, mrow_neA, mrow_neB, mrow_self, q_upd, f_X5_questionIn_L3, ha.c1, Nat.le_refl]
      · unfold q4
        rw [hn]
        rfl
  obtain ⟨_, e, a, h1, h2, rfl⟩ := hh
  exact ⟨a, h1, h2, e⟩
theorem k_question (h : CS ln μ j V n N w0 r) (hL : LN ln) {p : Nat} (hp : p < n) : ∃ a, CS ln a j V n N w0 r ∧ FrC (fun c => c = 2 ∨ c = 4) μ a ∧ f_X5_firstQuestion sh ln j μ (nI p) = some (oN (qsn r V n N w0 p), a) := by
  have hb := h.1.b
  have hw0 := hb.2.2.2.2.2
  have e1 : f_X4_isSure sh ln j (15 + 5 * j + 2) μ (nI p) (nI w0) = some (bI (suR r V n N p w0)) := k_isSure h h.stl h.stay hp hw0
  obtain ⟨a, ha, hF, e2⟩ := k_que4 (sh := sh) h hL h.stl ⟨by omega, by omega⟩ h.stay hp
  unfold qsn
  by_cases cs : suR r V n N p w0 = true
  · refine ⟨μ, h, FrC.rf, ?_⟩
    simp (disch := omega) only [Option.bind_some, Option.map_some, Option.bind_none, q_lit, nI_add, pk_mul, q_sub, q_addn, q_cl, q_le, q_lt, q_eq, q_ck, q_cd, q_cb0, q_cb1, q_div, q_rem, q_shl1, q_shr, q_and, q_or, q_tb, if_pos, if_neg, if_true, if_false, not_true, not_false_iff, eq_self, Bool.true_eq_false, Bool.false_eq_true, q_bI0, q_bI1, q_cbI, Nat.or_zero, mst_row, mrow_neA, mrow_neB, mrow_self, q_upd, f_X5_firstQuestion, h.c3, e1, cs]
    rfl
  · have cs := Bool.not_eq_true _ ▸ cs
    refine ⟨a, ha, hF, ?_⟩
    simp (disch := omega) only [Option.bind_some, Option.map_some, Option.bind_none, q_lit, nI_add, pk_mul, q_sub, q_addn, q_cl, q_le, q_lt, q_eq, q_ck, q_cd, q_cb0, q_cb1, q_div, q_rem, q_shl1, q_shr, q_and, q_or, q_tb, if_pos, if_neg, if_true, if_false, not_true, not_false_iff, eq_self, Bool.true_eq_false, Bool.false_eq_true, q_bI0, q_bI1, q_cbI, Nat.or_zero, mst_row, mrow_neA, mrow_neB, mrow_self, q_upd, f_X5_firstQuestion, h.c3, e1, cs, e2]
end QUEK
