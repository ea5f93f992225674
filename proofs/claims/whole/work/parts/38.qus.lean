-- queries, two of them
def qT (r : Nat → Int32) (V n N w0 q s v : Nat) : Nat → Int32 := drp (fun w => nI (qA (lf r) r V n N q s v w)) N w0 r
/-- whether behind a query a second one makes sure -/
def qB (r : Nat → Int32) (V n N w0 p q s v : Nat) : Bool := decide (q ≠ p ∧ s ≠ p) && (qsn (qT r V n N w0 q s v) V n N w0 p).isSome
def qB2 (r : Nat → Int32) (V n N w0 p q s : Nat) (m : Nat) : Bool := anyN m (qB r V n N w0 p q s)
def qB3 (r : Nat → Int32) (V n N w0 p q : Nat) (m : Nat) : Bool := anyN m (fun s => qB2 r V n N w0 p q s V)
def qB4 (r : Nat → Int32) (V n N w0 p : Nat) (m : Nat) : Bool := anyN m (fun q => qB3 r V n N w0 p q n)
def qus (r : Nat → Int32) (V n N w0 p : Nat) : Int32 := if 6 < n then -nI 3 else if suR r V n N p w0 = true then nI 0 else if (qsn r V n N w0 p).isSome = true then nI 1 else if qB4 r V n N w0 p n = true then nI 2 else -nI 1
theorem q4_cg {S S' : Nat → Bool} {r r' : Nat → Int32} {V n N w0 p : Nat} (hS : ∀ w, w < N → S w = S' w) (hl : ∀ q, lab r q = lab r' q) (hw0 : w0 < N) : q4 S r V n N w0 p = q4 S' r' V n N w0 p := by
  have e1 : ∀ q s w, poss S (lab r q) (fig V n s) N (lab r q w) = poss S' (lab r' q) (fig V n s) N (lab r' q w) := fun q s w => by
    rw [hl]
    exact poss_congr hS (fun _ _ _ => rfl) (fun _ _ => rfl)
  have e2 : ∀ q s v w, qA S r V n N q s v w = qA S' r' V n N q s v w := fun q s v w => by unfold qA; rw [e1]
  have e3 : ∀ q s v, qO S r V n N w0 p q s v = qO S' r' V n N w0 p q s v := fun q s v => by
    unfold qO
    rw [hl]
    exact poss_congr (fun u hu => by rw [hS u hu, e2, e2]) (fun _ _ _ => rfl) (fun _ _ => rfl)
  unfold q4
  congr 1
  funext q
  unfold q3
  congr 1
  funext s
  unfold q2
  congr 1
  funext v
  unfold q1
  rw [e3]
theorem fstO_map {m : Nat} {f : Nat → Option Nat} : (fstO m f).isSome = anyN m (fun k => (f k).isSome) := by
  induction m with
  | zero => rfl
  | succ m ih =>
    rw [fstO, anyN, ← ih]
    cases fstO m f <;> simp
section QUSQ
variable {μ : Mm} {V n N w0 : Nat} {r : Nat → Int32}
theorem q_restTwo (h : RS μ V n N w0 r) {ρ : Nat → Int32} {a : Mm} (h1 : a (1, 0) = ρ) (hρ : ∀ i, i < 20 ∨ 532 ≤ i → ρ i = r i) (hK : ∀ w, w < 512 → a (28, 0) w = r (20 + w)) (p q s v x : Int32) :
    Wh (fun z : Mm × Int32 => f_X11_queries_L178 p x q s v z.1 z.2) (a, nI 0) = some (.inl (mrow a (1, 0) r, x, v + nI 1)) := by
  refine Wh_it 512 (fun k => (mrow a (1, 0) (fun i => if 20 ≤ i ∧ i < 20 + k then r i else ρ i), nI k)) ?_ (fun k hk => ?_) ?_
  · have : (fun i => if 20 ≤ i ∧ i < 20 + 0 then r i else ρ i) = ρ := by funext i; exact if_neg (by omega)
    rw [this, ← h1, mrow_id]
  · show f_X11_queries_L178 p x q s v (mrow a (1, 0) (fun i => if 20 ≤ i ∧ i < 20 + k then r i else ρ i)) (nI k) = some (.inl (mrow a (1, 0) (fun i => if 20 ≤ i ∧ i < 20 + (k + 1) then r i else ρ i), nI (k + 1)))
    have e : upd (fun i => if 20 ≤ i ∧ i < 20 + k then r i else ρ i) (20 + k) (r (20 + k)) = (fun i => if 20 ≤ i ∧ i < 20 + (k + 1) then r i else ρ i) := by
      funext i
      rw [q_upd]
      by_cases hi : i = 20 + k
      · subst hi; rw [if_pos rfl, if_pos (by omega)]
      · rw [if_neg hi]
        by_cases c : 20 ≤ i ∧ i < 20 + k
        · rw [if_pos c, if_pos (by omega)]
        · rw [if_neg c, if_neg (by omega)]
    have hKk := hK k hk
    simp (disch := omega) only [Option.bind_some, Option.map_some, Option.bind_none, q_lit, nI_add, pk_mul, q_sub, q_addn, q_cl, q_le, q_lt, q_eq, q_ck, q_cd, q_cb0, q_cb1, q_div, q_rem, q_shl1, q_shr, q_and, q_or, q_tb, if_pos, if_neg, if_true, if_false, not_true, not_false_iff, eq_self, Bool.true_eq_false, Bool.false_eq_true, q_bI0, q_bI1, q_cbI, Nat.or_zero, mst_row, mrow_neA, mrow_neB, mrow_self, q_upd, f_X11_queries_L178, hKk, mrow_mrow, e]
  · show f_X11_queries_L178 p x q s v (mrow a (1, 0) (fun i => if 20 ≤ i ∧ i < 20 + 512 then r i else ρ i)) (nI 512) = _
    have e : (fun i => if 20 ≤ i ∧ i < 20 + 512 then r i else ρ i) = r := by
      funext i
      by_cases c : 20 ≤ i ∧ i < 20 + 512
      · rw [if_pos c]
      · rw [if_neg c, hρ i (by omega)]
    rw [e]
    simp (disch := omega) only [Option.bind_some, Option.map_some, Option.bind_none, q_lit, nI_add, pk_mul, q_sub, q_addn, q_cl, q_le, q_lt, q_eq, q_ck, q_cd, q_cb0, q_cb1, q_div, q_rem, q_shl1, q_shr, q_and, q_or, q_tb, if_pos, if_neg, if_true, if_false, not_true, not_false_iff, eq_self, Bool.true_eq_false, Bool.false_eq_true, q_bI0, q_bI1, q_cbI, Nat.or_zero, mst_row, mrow_neA, mrow_neB, mrow_self, q_upd, f_X11_queries_L178]
def QI (μ a : Mm) (V n N w0 : Nat) (r : Nat → Int32) : Prop := RS a V n N w0 r ∧ Fr [1, 8, 9, 28] μ a ∧ ∀ w, w < 512 → a (28, 0) w = r (20 + w)
theorem q_qus1 {μ a : Mm} (h : QI μ a V n N w0 r) {p q s v : Nat} (hp : p < n) (hq : q < n) (hs : s < n) (hv : v < V) :
    ∃ a2, QI μ a2 V n N w0 r ∧ f_X11_queries_L121 (nI p) (nI q) (nI s) a (nI 0) (nI v) = some (.inl (a2, bI (qB r V n N w0 p q s v), nI (v + 1))) := by
  have hb := h.1.2.b
  have ha := h.1
  unfold qB
  by_cases c1 : q = p
  · refine ⟨a, h, ?_⟩
    have : decide (q ≠ p ∧ s ≠ p) = false := by simp [c1]
    rw [this, Bool.false_and]
    simp (disch := omega) only [Option.bind_some, Option.map_some, Option.bind_none, q_lit, nI_add, pk_mul, q_sub, q_addn, q_cl, q_le, q_lt, q_eq, q_ck, q_cd, q_cb0, q_cb1, q_div, q_rem, q_shl1, q_shr, q_and, q_or, q_tb, if_pos, if_neg, if_true, if_false, not_true, not_false_iff, eq_self, Bool.true_eq_false, Bool.false_eq_true, q_bI0, q_bI1, q_cbI, Nat.or_zero, mst_row, mrow_neA, mrow_neB, mrow_self, q_upd, f_X11_queries_L121, q_values ha, c1, bI_f]
  · by_cases c2 : s = p
    · refine ⟨a, h, ?_⟩
      have : decide (q ≠ p ∧ s ≠ p) = false := by simp [c2]
      rw [this, Bool.false_and]
      simp (disch := omega) only [Option.bind_some, Option.map_some, Option.bind_none, q_lit, nI_add, pk_mul, q_sub, q_addn, q_cl, q_le, q_lt, q_eq, q_ck, q_cd, q_cb0, q_cb1, q_div, q_rem, q_shl1, q_shr, q_and, q_or, q_tb, if_pos, if_neg, if_true, if_false, not_true, not_false_iff, eq_self, Bool.true_eq_false, Bool.false_eq_true, q_bI0, q_bI1, q_cbI, Nat.or_zero, mst_row, mrow_neA, mrow_neB, mrow_self, q_upd, f_X11_queries_L121, q_values ha, c1, c2, bI_f]
    · have hd : decide (q ≠ p ∧ s ≠ p) = true := by simp [c1, c2]
      rw [hd, Bool.true_and]
      obtain ⟨R, C, e1, hC⟩ := q_answersCome ha hq hs hv
      have h2 := (ha.row (a := 8) (b := 0) R (by omega)).row (a := 9) (b := 0) C (by omega)
      have e2 := q_drops h2
      rw [mrow_self] at e2
      have ed : drp C N w0 r = qT r V n N w0 q s v := drp_congr ha.2 (fun w hw hl => by rw [hC w hw hl, hC w0 hb.2.2.2.2.2 ha.2.h0]; rfl)
      rw [ed] at e2
      have hWT : WF V n N w0 (qT r V n N w0 q s v) := drp_WF _ ha.2
      have h3 := RS.set hWT (mrow (mrow a (8, 0) R) (9, 0) C)
      obtain ⟨a3, h4, hF4, e3⟩ := q_question h3 hp
      have hFa : Fr [1, 8, 9, 28] μ a3 := (((h.2.1.mr (by decide)).mr (by decide)).mr (by decide)).tr (hF4.mono (by decide))
      have hK : ∀ w, w < 512 → a3 (28, 0) w = r (20 + w) := fun w hw => by
        rw [hF4 28 (by decide), mrow_neA (by omega), mrow_neA (by omega), mrow_neA (by omega)]; exact h.2.2 w hw
      have e4 := fun x => q_restTwo (a := a3) ha h4.1 (fun i hi => drp_ne (by omega)) hK (nI p) (nI q) (nI s) (nI v) x
      refine ⟨mrow a3 (1, 0) r, ⟨RS.set ha.2 _, hFa.mr (by decide), fun w hw => by rw [mrow_neA (by omega)]; exact hK w hw⟩, ?_⟩
      cases cq : qsn (qT r V n N w0 q s v) V n N w0 p with
      | none =>
        have hv1 : oN none = -nI 1 := rfl
        rw [cq, hv1] at e3
        have e5 := e4 (nI 0)
        simp (disch := omega) only [Option.bind_some, Option.map_some, Option.bind_none, q_lit, nI_add, pk_mul, q_sub, q_addn, q_cl, q_le, q_lt, q_eq, q_ck, q_cd, q_cb0, q_cb1, q_div, q_rem, q_shl1, q_shr, q_and, q_or, q_tb, if_pos, if_neg, if_true, if_false, not_true, not_false_iff, eq_self, Bool.true_eq_false, Bool.false_eq_true, q_bI0, q_bI1, q_cbI, Nat.or_zero, mst_row, mrow_neA, mrow_neB, mrow_self, q_upd, f_X11_queries_L121, f_X11_queries_J174, q_values ha, c1, c2, e1, e2, e3, if_pos m1_lt, e5]
        rfl
      | some x =>
        have hx : x < 1000 := by
          unfold qsn at cq
          split at cq
          · cases cq
          · exact q4_lt hb.2.1 hb.2.2.2.2.1 cq
        have hv1 : oN (some x) = nI x := rfl
        rw [cq, hv1] at e3
        have e5 := e4 (nI 1)
        simp (disch := omega) only [Option.bind_some, Option.map_some, Option.bind_none, q_lit, nI_add, pk_mul, q_sub, q_addn, q_cl, q_le, q_lt, q_eq, q_ck, q_cd, q_cb0, q_cb1, q_div, q_rem, q_shl1, q_shr, q_and, q_or, q_tb, if_pos, if_neg, if_true, if_false, not_true, not_false_iff, eq_self, Bool.true_eq_false, Bool.false_eq_true, q_bI0, q_bI1, q_cbI, Nat.or_zero, mst_row, mrow_neA, mrow_neB, mrow_self, q_upd, f_X11_queries_L121, f_X11_queries_J174, q_values ha, c1, c2, e1, e2, e3, e5]
        rfl
theorem q_qus2 {μ a : Mm} (h : QI μ a V n N w0 r) {p q s : Nat} (hp : p < n) (hq : q < n) (hs : s < n) :
    ∃ a2, QI μ a2 V n N w0 r ∧ Wh (fun z : Mm × Int32 × Int32 => f_X11_queries_L121 (nI p) (nI q) (nI s) z.1 z.2.1 z.2.2) (a, nI 0, nI 0) = some (.inl (a2, bI (qB2 r V n N w0 p q s V), nI (s + 1))) := by
  have hb := h.1.2.b
  have hh : ∃ x, Wh (fun z : Mm × Int32 × Int32 => f_X11_queries_L121 (nI p) (nI q) (nI s) z.1 z.2.1 z.2.2) (a, nI 0, nI 0) = some x ∧ ∃ a2, QI μ a2 V n N w0 r ∧ x = .inl (a2, bI (qB2 r V n N w0 p q s V), nI (s + 1)) := by
    refine Wh_inv V (fun k z => ∃ a2, z = (a2, bI (qB2 r V n N w0 p q s k), nI k) ∧ QI μ a2 V n N w0 r) _ ⟨a, rfl, h⟩ ?_ ?_
    · rintro k _ hk ⟨a2, rfl, h2⟩
      by_cases c : qB2 r V n N w0 p q s k = true
      · right
        refine ⟨.inl (a2, nI 1, nI (s + 1)), ?_, a2, h2, ?_⟩
        · show f_X11_queries_L121 (nI p) (nI q) (nI s) a2 (bI (qB2 r V n N w0 p q s k)) (nI k) = _
          rw [c]
          simp (disch := omega) only [Option.bind_some, Option.map_some, Option.bind_none, q_lit, nI_add, pk_mul, q_sub, q_addn, q_cl, q_le, q_lt, q_eq, q_ck, q_cd, q_cb0, q_cb1, q_div, q_rem, q_shl1, q_shr, q_and, q_or, q_tb, if_pos, if_neg, if_true, if_false, not_true, not_false_iff, eq_self, Bool.true_eq_false, Bool.false_eq_true, q_bI0, q_bI1, q_cbI, Nat.or_zero, mst_row, mrow_neA, mrow_neB, mrow_self, q_upd, f_X11_queries_L121, q_values h2.1, bI_t]
        · obtain ⟨i, hi, hx⟩ := anyN_iff.mp c
          have : qB2 r V n N w0 p q s V = true := anyN_iff.mpr ⟨i, by omega, hx⟩
          rw [this]; rfl
      · left
        have c := Bool.not_eq_true _ ▸ c
        obtain ⟨a3, h3, e3⟩ := q_qus1 h2 hp hq hs hk
        refine ⟨(a3, bI (qB2 r V n N w0 p q s (k + 1)), nI (k + 1)), ?_, a3, rfl, h3⟩
        show f_X11_queries_L121 (nI p) (nI q) (nI s) a2 (bI (qB2 r V n N w0 p q s k)) (nI k) = _
        have es : qB2 r V n N w0 p q s (k + 1) = (qB2 r V n N w0 p q s k || qB r V n N w0 p q s k) := rfl
        rw [es, c, Bool.false_or]
        exact e3
    · rintro _ ⟨a2, rfl, h2⟩
      refine ⟨.inl (a2, bI (qB2 r V n N w0 p q s V), nI (s + 1)), ?_, a2, h2, rfl⟩
      show f_X11_queries_L121 (nI p) (nI q) (nI s) a2 (bI (qB2 r V n N w0 p q s V)) (nI V) = _
      simp (disch := omega) only [Option.bind_some, Option.map_some, Option.bind_none, q_lit, nI_add, pk_mul, q_sub, q_addn, q_cl, q_le, q_lt, q_eq, q_ck, q_cd, q_cb0, q_cb1, q_div, q_rem, q_shl1, q_shr, q_and, q_or, q_tb, if_pos, if_neg, if_true, if_false, not_true, not_false_iff, eq_self, Bool.true_eq_false, Bool.false_eq_true, q_bI0, q_bI1, q_cbI, Nat.or_zero, mst_row, mrow_neA, mrow_neB, mrow_self, q_upd, f_X11_queries_L121, q_values h2.1, Nat.le_refl]
  obtain ⟨_, e, a2, h2, rfl⟩ := hh
  exact ⟨a2, h2, e⟩
theorem q_qus3 {μ a : Mm} (h : QI μ a V n N w0 r) {p q : Nat} (hp : p < n) (hq : q < n) :
    ∃ a2, QI μ a2 V n N w0 r ∧ Wh (fun z : Mm × Int32 × Int32 => f_X11_queries_L105 (nI p) (nI q) z.1 z.2.1 z.2.2) (a, nI 0, nI 0) = some (.inl (a2, bI (qB3 r V n N w0 p q n), nI (q + 1))) := by
  have hb := h.1.2.b
  have hh : ∃ x, Wh (fun z : Mm × Int32 × Int32 => f_X11_queries_L105 (nI p) (nI q) z.1 z.2.1 z.2.2) (a, nI 0, nI 0) = some x ∧ ∃ a2, QI μ a2 V n N w0 r ∧ x = .inl (a2, bI (qB3 r V n N w0 p q n), nI (q + 1)) := by
    refine Wh_inv n (fun k z => ∃ a2, z = (a2, bI (qB3 r V n N w0 p q k), nI k) ∧ QI μ a2 V n N w0 r) _ ⟨a, rfl, h⟩ ?_ ?_
    · rintro k _ hk ⟨a2, rfl, h2⟩
      by_cases c : qB3 r V n N w0 p q k = true
      · right
        refine ⟨.inl (a2, nI 1, nI (q + 1)), ?_, a2, h2, ?_⟩
        · show f_X11_queries_L105 (nI p) (nI q) a2 (bI (qB3 r V n N w0 p q k)) (nI k) = _
          rw [c]
          simp (disch := omega) only [Option.bind_some, Option.map_some, Option.bind_none, q_lit, nI_add, pk_mul, q_sub, q_addn, q_cl, q_le, q_lt, q_eq, q_ck, q_cd, q_cb0, q_cb1, q_div, q_rem, q_shl1, q_shr, q_and, q_or, q_tb, if_pos, if_neg, if_true, if_false, not_true, not_false_iff, eq_self, Bool.true_eq_false, Bool.false_eq_true, q_bI0, q_bI1, q_cbI, Nat.or_zero, mst_row, mrow_neA, mrow_neB, mrow_self, q_upd, f_X11_queries_L105, q_people h2.1, bI_t]
        · obtain ⟨i, hi, hx⟩ := anyN_iff.mp c
          have : qB3 r V n N w0 p q n = true := anyN_iff.mpr ⟨i, by omega, hx⟩
          rw [this]; rfl
      · left
        have c := Bool.not_eq_true _ ▸ c
        obtain ⟨a3, h3, e3⟩ := q_qus2 h2 hp hq hk
        refine ⟨(a3, bI (qB3 r V n N w0 p q (k + 1)), nI (k + 1)), ?_, a3, rfl, h3⟩
        show f_X11_queries_L105 (nI p) (nI q) a2 (bI (qB3 r V n N w0 p q k)) (nI k) = _
        have es : qB3 r V n N w0 p q (k + 1) = (qB3 r V n N w0 p q k || qB2 r V n N w0 p q k V) := rfl
        rw [es, c, Bool.false_or]
        simp (disch := omega) only [Option.bind_some, Option.map_some, Option.bind_none, q_lit, nI_add, pk_mul, q_sub, q_addn, q_cl, q_le, q_lt, q_eq, q_ck, q_cd, q_cb0, q_cb1, q_div, q_rem, q_shl1, q_shr, q_and, q_or, q_tb, if_pos, if_neg, if_true, if_false, not_true, not_false_iff, eq_self, Bool.true_eq_false, Bool.false_eq_true, q_bI0, q_bI1, q_cbI, Nat.or_zero, mst_row, mrow_neA, mrow_neB, mrow_self, q_upd, f_X11_queries_L105, q_people h2.1, bI_f, e3]
    · rintro _ ⟨a2, rfl, h2⟩
      refine ⟨.inl (a2, bI (qB3 r V n N w0 p q n), nI (q + 1)), ?_, a2, h2, rfl⟩
      show f_X11_queries_L105 (nI p) (nI q) a2 (bI (qB3 r V n N w0 p q n)) (nI n) = _
      simp (disch := omega) only [Option.bind_some, Option.map_some, Option.bind_none, q_lit, nI_add, pk_mul, q_sub, q_addn, q_cl, q_le, q_lt, q_eq, q_ck, q_cd, q_cb0, q_cb1, q_div, q_rem, q_shl1, q_shr, q_and, q_or, q_tb, if_pos, if_neg, if_true, if_false, not_true, not_false_iff, eq_self, Bool.true_eq_false, Bool.false_eq_true, q_bI0, q_bI1, q_cbI, Nat.or_zero, mst_row, mrow_neA, mrow_neB, mrow_self, q_upd, f_X11_queries_L105, q_people h2.1, Nat.le_refl]
  obtain ⟨_, e, a2, h2, rfl⟩ := hh
  exact ⟨a2, h2, e⟩
theorem q_qus4 (h : RS μ V n N w0 r) {p : Nat} (hp : p < n) :
    ∃ a2, RS a2 V n N w0 r ∧ Fr [1, 8, 9, 28] μ a2 ∧ Wh (fun z : Mm × Int32 => f_X11_queries_L58 (nI p) z.1 z.2) (μ, nI 0) = some (if qB4 r V n N w0 p n = true then nI 2 else -nI 1, a2) := by
  have hb := h.2.b
  have hh : ∃ x, Wh (fun z : Mm × Int32 => f_X11_queries_L58 (nI p) z.1 z.2) (μ, nI 0) = some x ∧ ∃ a2, RS a2 V n N w0 r ∧ Fr [1, 8, 9, 28] μ a2 ∧ x = (if qB4 r V n N w0 p n = true then nI 2 else -nI 1, a2) := by
    refine Wh_inv1 512 (fun k z => ∃ K, z = (mrow μ (28, 0) K, nI k) ∧ ∀ w, w < k → K w = r (20 + w)) _ ⟨μ (28, 0), by rw [mrow_id], fun i hi => by omega⟩ ?_ ?_
    · rintro k _ hk ⟨K, rfl, hK⟩
      refine ⟨(mrow μ (28, 0) (upd K k (r (20 + k))), nI (k + 1)), ?_, _, rfl, fun w hw => ?_⟩
      · show f_X11_queries_L58 (nI p) (mrow μ (28, 0) K) (nI k) = _
        simp (disch := omega) only [Option.bind_some, Option.map_some, Option.bind_none, q_lit, nI_add, pk_mul, q_sub, q_addn, q_cl, q_le, q_lt, q_eq, q_ck, q_cd, q_cb0, q_cb1, q_div, q_rem, q_shl1, q_shr, q_and, q_or, q_tb, if_pos, if_neg, if_true, if_false, not_true, not_false_iff, eq_self, Bool.true_eq_false, Bool.false_eq_true, q_bI0, q_bI1, q_cbI, Nat.or_zero, mst_row, mrow_neA, mrow_neB, mrow_self, q_upd, f_X11_queries_L58, h.1, mrow_mrow]
      · rw [q_upd]
        by_cases e : w = k
        · subst e; rw [if_pos rfl]
        · rw [if_neg e]; exact hK w (by omega)
    · rintro _ ⟨K, rfl, hK⟩
      have h0 : QI μ (mrow μ (28, 0) K) V n N w0 r := ⟨h.row _ (by omega), (by repeat first | exact Fr.rf | refine Fr.mr ?_ (by decide)), fun w hw => by rw [mrow_self]; exact hK w hw⟩
      have e : f_X11_queries_L58 (nI p) (mrow μ (28, 0) K) (nI 512) = (Wh (fun z : Mm × Int32 × Int32 => f_X11_queries_L90 (nI p) z.1 z.2.1 z.2.2) (mrow μ (28, 0) K, nI 0, nI 0)).map Sum.inr := by
        simp (disch := omega) only [Option.bind_some, Option.map_some, Option.bind_none, q_lit, nI_add, pk_mul, q_sub, q_addn, q_cl, q_le, q_lt, q_eq, q_ck, q_cd, q_cb0, q_cb1, q_div, q_rem, q_shl1, q_shr, q_and, q_or, q_tb, if_pos, if_neg, if_true, if_false, not_true, not_false_iff, eq_self, Bool.true_eq_false, Bool.false_eq_true, q_bI0, q_bI1, q_cbI, Nat.or_zero, mst_row, mrow_neA, mrow_neB, mrow_self, q_upd, f_X11_queries_L58]
      have hh : ∃ x, Wh (fun z : Mm × Int32 × Int32 => f_X11_queries_L90 (nI p) z.1 z.2.1 z.2.2) (mrow μ (28, 0) K, nI 0, nI 0) = some x ∧ ∃ a2, RS a2 V n N w0 r ∧ Fr [1, 8, 9, 28] μ a2 ∧ x = (if qB4 r V n N w0 p n = true then nI 2 else -nI 1, a2) := by
        refine Wh_inv n (fun k z => ∃ a2, z = (a2, bI (qB4 r V n N w0 p k), nI k) ∧ QI μ a2 V n N w0 r) _ ⟨_, rfl, h0⟩ ?_ ?_
        · rintro k _ hk ⟨a2, rfl, h2⟩
          by_cases c : qB4 r V n N w0 p k = true
          · right
            refine ⟨(nI 2, a2), ?_, a2, h2.1, h2.2.1, ?_⟩
            · show f_X11_queries_L90 (nI p) a2 (bI (qB4 r V n N w0 p k)) (nI k) = _
              rw [c]
              simp (disch := omega) only [Option.bind_some, Option.map_some, Option.bind_none, q_lit, nI_add, pk_mul, q_sub, q_addn, q_cl, q_le, q_lt, q_eq, q_ck, q_cd, q_cb0, q_cb1, q_div, q_rem, q_shl1, q_shr, q_and, q_or, q_tb, if_pos, if_neg, if_true, if_false, not_true, not_false_iff, eq_self, Bool.true_eq_false, Bool.false_eq_true, q_bI0, q_bI1, q_cbI, Nat.or_zero, mst_row, mrow_neA, mrow_neB, mrow_self, q_upd, f_X11_queries_L90, q_people h2.1, bI_t]
            · obtain ⟨i, hi, hx⟩ := anyN_iff.mp c
              have : qB4 r V n N w0 p n = true := anyN_iff.mpr ⟨i, by omega, hx⟩
              rw [if_pos this]
          · left
            have c := Bool.not_eq_true _ ▸ c
            obtain ⟨a3, h3, e3⟩ := q_qus3 h2 hp hk
            refine ⟨(a3, bI (qB4 r V n N w0 p (k + 1)), nI (k + 1)), ?_, a3, rfl, h3⟩
            show f_X11_queries_L90 (nI p) a2 (bI (qB4 r V n N w0 p k)) (nI k) = _
            have es : qB4 r V n N w0 p (k + 1) = (qB4 r V n N w0 p k || qB3 r V n N w0 p k n) := rfl
            rw [es, c, Bool.false_or]
            simp (disch := omega) only [Option.bind_some, Option.map_some, Option.bind_none, q_lit, nI_add, pk_mul, q_sub, q_addn, q_cl, q_le, q_lt, q_eq, q_ck, q_cd, q_cb0, q_cb1, q_div, q_rem, q_shl1, q_shr, q_and, q_or, q_tb, if_pos, if_neg, if_true, if_false, not_true, not_false_iff, eq_self, Bool.true_eq_false, Bool.false_eq_true, q_bI0, q_bI1, q_cbI, Nat.or_zero, mst_row, mrow_neA, mrow_neB, mrow_self, q_upd, f_X11_queries_L90, q_people h2.1, bI_f, e3]
        · rintro _ ⟨a2, rfl, h2⟩
          refine ⟨(if qB4 r V n N w0 p n = true then nI 2 else -nI 1, a2), ?_, a2, h2.1, h2.2.1, rfl⟩
          show f_X11_queries_L90 (nI p) a2 (bI (qB4 r V n N w0 p n)) (nI n) = _
          cases qB4 r V n N w0 p n
          · simp (disch := omega) only [Option.bind_some, Option.map_some, Option.bind_none, q_lit, nI_add, pk_mul, q_sub, q_addn, q_cl, q_le, q_lt, q_eq, q_ck, q_cd, q_cb0, q_cb1, q_div, q_rem, q_shl1, q_shr, q_and, q_or, q_tb, if_pos, if_neg, if_true, if_false, not_true, not_false_iff, eq_self, Bool.true_eq_false, Bool.false_eq_true, q_bI0, q_bI1, q_cbI, Nat.or_zero, mst_row, mrow_neA, mrow_neB, mrow_self, q_upd, f_X11_queries_L90, q_people h2.1, Nat.le_refl, bI_f]
          · simp (disch := omega) only [Option.bind_some, Option.map_some, Option.bind_none, q_lit, nI_add, pk_mul, q_sub, q_addn, q_cl, q_le, q_lt, q_eq, q_ck, q_cd, q_cb0, q_cb1, q_div, q_rem, q_shl1, q_shr, q_and, q_or, q_tb, if_pos, if_neg, if_true, if_false, not_true, not_false_iff, eq_self, Bool.true_eq_false, Bool.false_eq_true, q_bI0, q_bI1, q_cbI, Nat.or_zero, mst_row, mrow_neA, mrow_neB, mrow_self, q_upd, f_X11_queries_L90, q_people h2.1, Nat.le_refl, bI_t]
      obtain ⟨x, h1, h2⟩ := hh
      exact ⟨x, by show f_X11_queries_L58 (nI p) (mrow μ (28, 0) K) (nI 512) = _; rw [e, h1]; rfl, h2⟩
  obtain ⟨_, e, a2, h1, h2, rfl⟩ := hh
  exact ⟨a2, h1, h2, e⟩
theorem q_queries (h : RS μ V n N w0 r) {p : Nat} (hp : p < n) :
    ∃ a, RS a V n N w0 r ∧ Fr [1, 8, 9, 28] μ a ∧ (f_X11_people μ).bind (fun x21 => if x21 ≤ (6 : Int32) then (f_X11_here μ).bind fun x35 => (f_X11_isSure μ (nI p) x35).bind fun x38 => if x38.1 = 0 then (f_X11_questionFor x38.2 (nI p)).bind fun x48 => if x48.1 < 0 then Wh (fun z : Mm × Int32 => f_X11_queries_L58 (nI p) z.1 z.2) (x48.2, (0 : Int32)) else (some ((1 : Int32), x48.2)) else (some ((0 : Int32), x38.2)) else (some ((-3 : Int32), μ))) = some (qus r V n N w0 p, a) := by
  have hb := h.2.b
  unfold qus
  by_cases c : 6 < n
  · refine ⟨μ, h, Fr.rf, ?_⟩
    rw [if_pos c]
    simp (disch := omega) only [Option.bind_some, Option.map_some, Option.bind_none, q_lit, nI_add, pk_mul, q_sub, q_addn, q_cl, q_le, q_lt, q_eq, q_ck, q_cd, q_cb0, q_cb1, q_div, q_rem, q_shl1, q_shr, q_and, q_or, q_tb, if_pos, if_neg, if_true, if_false, not_true, not_false_iff, eq_self, Bool.true_eq_false, Bool.false_eq_true, q_bI0, q_bI1, q_cbI, Nat.or_zero, mst_row, mrow_neA, mrow_neB, mrow_self, q_upd, q_people h]
  · rw [if_neg c]
    obtain ⟨R, e1⟩ := q_isSure h hp hb.2.2.2.2.2 h.2.h0
    have h0 := h.row (a := 8) (b := 0) R (by omega)
    by_cases c2 : suR r V n N p w0 = true
    · refine ⟨_, h0, (by repeat first | exact Fr.rf | refine Fr.mr ?_ (by decide)), ?_⟩
      rw [if_pos c2]
      simp (disch := omega) only [Option.bind_some, Option.map_some, Option.bind_none, q_lit, nI_add, pk_mul, q_sub, q_addn, q_cl, q_le, q_lt, q_eq, q_ck, q_cd, q_cb0, q_cb1, q_div, q_rem, q_shl1, q_shr, q_and, q_or, q_tb, if_pos, if_neg, if_true, if_false, not_true, not_false_iff, eq_self, Bool.true_eq_false, Bool.false_eq_true, q_bI0, q_bI1, q_cbI, Nat.or_zero, mst_row, mrow_neA, mrow_neB, mrow_self, q_upd, q_people h, q_here h, e1, c2]
    · have c3 := Bool.not_eq_true _ ▸ c2
      rw [if_neg c2]
      obtain ⟨a2, h2, hF2, e2⟩ := q_question h0 hp
      have hF : Fr [1, 8, 9, 28] μ a2 := (Fr.rf.mr (by decide)).tr (hF2.mono (by decide))
      cases cq : qsn r V n N w0 p with
      | none =>
        rw [cq] at e2
        have hv1 : oN none = -nI 1 := rfl
        rw [hv1] at e2
        obtain ⟨a3, h3, hF3, e3⟩ := q_qus4 h2 hp
        refine ⟨a3, h3, hF.tr hF3, ?_⟩
        simp (disch := omega) only [Option.bind_some, Option.map_some, Option.bind_none, q_lit, nI_add, pk_mul, q_sub, q_addn, q_cl, q_le, q_lt, q_eq, q_ck, q_cd, q_cb0, q_cb1, q_div, q_rem, q_shl1, q_shr, q_and, q_or, q_tb, if_pos, if_neg, if_true, if_false, not_true, not_false_iff, eq_self, Bool.true_eq_false, Bool.false_eq_true, q_bI0, q_bI1, q_cbI, Nat.or_zero, mst_row, mrow_neA, mrow_neB, mrow_self, q_upd, q_people h, q_here h, e1, c3, e2, if_pos m1_lt, e3, Option.isSome_none]
      | some x =>
        have hx : x < 1000 := by
          unfold qsn at cq
          rw [if_neg c2] at cq
          exact q4_lt hb.2.1 hb.2.2.2.2.1 cq
        rw [cq] at e2
        have hv1 : oN (some x) = nI x := rfl
        rw [hv1] at e2
        refine ⟨a2, h2, hF, ?_⟩
        simp (disch := omega) only [Option.bind_some, Option.map_some, Option.bind_none, q_lit, nI_add, pk_mul, q_sub, q_addn, q_cl, q_le, q_lt, q_eq, q_ck, q_cd, q_cb0, q_cb1, q_div, q_rem, q_shl1, q_shr, q_and, q_or, q_tb, if_pos, if_neg, if_true, if_false, not_true, not_false_iff, eq_self, Bool.true_eq_false, Bool.false_eq_true, q_bI0, q_bI1, q_cbI, Nat.or_zero, mst_row, mrow_neA, mrow_neB, mrow_self, q_upd, q_people h, q_here h, e1, c3, e2, Option.isSome_some]
end QUSQ
section QUSK
variable {sh : Sh} {ln : Nat → Nat} {μ : Mm} {j V n N w0 : Nat} {r : Nat → Int32}
theorem q4_none {S : Nat → Bool} {p : Nat} (h : q4 S r V n N w0 p = none) {q s v : Nat} (hq : q < n) (hs : s < n) (hv : v < V) (h1 : q ≠ p) (h2 : s ≠ p) : sur (qO S r V n N w0 p q s v) = false := by
  have h3 := fstO_none (fstO_none (fstO_none h q hq) s hs) v hv
  cases c : sur (qO S r V n N w0 p q s v)
  · rfl
  · have : q1 S r V n N w0 p q s v = some (100 * q + 10 * s + v) := by simp [q1, h1, h2, c]
    rw [this] at h3; cases h3
theorem k_qB (h : WF V n N w0 r) {p q s v : Nat} (hp : p < n) (hq : q < n) (hs : s < n) (hv : v < V) (h1 : q ≠ p) (h2 : s ≠ p) (hsu : suR r V n N p w0 = false) (hn : q4 (lf r) r V n N w0 p = none) :
    qB r V n N w0 p q s v = (anyN N (fun w => lf r w && decide (¬ nI (qA (lf r) r V n N q s v w) = nI (qA (lf r) r V n N q s v w0))) && (q4 (lf (qT r V n N w0 q s v)) r V n N w0 p).isSome) := by
  have hb := h.b
  have hd : decide (q ≠ p ∧ s ≠ p) = true := by simp [h1, h2]
  unfold qB
  rw [hd, Bool.true_and]
  have hlab : ∀ x, lab (qT r V n N w0 q s v) x = lab r x := fun x => drp_labf hb.2.2.2.1 x
  by_cases c : anyN N (fun w => lf r w && decide (¬ nI (qA (lf r) r V n N q s v w) = nI (qA (lf r) r V n N q s v w0))) = true
  · rw [c, Bool.true_and]
    have hsu2 : suR (qT r V n N w0 q s v) V n N p w0 = false := by
      rw [← q4_none hn hq hs hv h1 h2]
      unfold suR qO
      rw [hlab]
      refine congrArg sur (poss_congr (fun u hu => ?_) (fun _ _ _ => rfl) (fun _ _ => rfl))
      have a1 := qA_le (lf r) r V n N q s v u
      have a0 := qA_le (lf r) r V n N q s v w0
      unfold qT
      rw [drp_lf hu]
      simp only [q_eq (show qA (lf r) r V n N q s v u < 2147483648 by omega) (show qA (lf r) r V n N q s v w0 < 2147483648 by omega)]
    unfold qsn
    rw [if_neg (by rw [hsu2]; decide)]
    rw [q4_cg (S' := lf (qT r V n N w0 q s v)) (r' := r) (fun _ _ => rfl) hlab hb.2.2.2.2.2]
  · have c := Bool.not_eq_true _ ▸ c
    have hT : qT r V n N w0 q s v = r := drp_id h (fun w hw hl => by
      have := anyN_false c w hw
      rw [hl, Bool.true_and, decide_eq_false_iff_not, Decidable.not_not] at this
      exact this)
    rw [c, hT]
    unfold qsn
    rw [if_neg (by rw [hsu]; decide), hn]
    rfl
theorem k_qus1 (h : CS ln μ j V n N w0 r) (hL : LN ln) {p q s v : Nat} (hp : p < n) (hq : q < n) (hs : s < n) (hv : v < V) (h1 : q ≠ p) (h2 : s ≠ p) (hsu : suR r V n N p w0 = false) (hn : q4 (lf r) r V n N w0 p = none) :
    ∃ a, CS ln a j V n N w0 r ∧ FrC (fun c => c = 2 ∨ c = 4 ∨ c = 14) μ a ∧ f_X5_sureByTwo_L25 sh ln j (nI p) (nI q) (nI s) μ (nI v) = some (if qB r V n N w0 p q s v = true then .inr (.inr (.inr (nI 1, a))) else .inl (a, nI (v + 1))) := by
  have hb := h.1.b
  have hw0 := hb.2.2.2.2.2
  have hl14 : ln 14 = 512 := hL.2.2.2.2.2.2.2.2.2.2.2.2.2.2
  have e0 : f_X1_become sh ln 14 (15 + 5 * j + 2) μ (nI N) = some (mrow μ (12, 14) (fun i => if i < N then μ (12, 15 + 5 * j + 2) i else μ (12, 14) i)) := k_become (by omega) h.stl.1 (by omega) h.stl.2
  obtain ⟨m1, hm1⟩ : ∃ m1, m1 = mrow μ (12, 14) (fun i => if i < N then μ (12, 15 + 5 * j + 2) i else μ (12, 14) i) := ⟨_, rfl⟩
  rw [← hm1] at e0
  have hc1 : CS ln m1 j V n N w0 r := by rw [hm1]; exact h.rowS _ (by omega) (by omega)
  have hS1 : ∀ w, w < N → m1 (12, 14) w = bI (lf r w) := fun w hw => by rw [hm1, mrow_self, if_pos hw]; exact h.stay w hw
  obtain ⟨R, C, e1, hC⟩ := k_sayAnswer (sh := sh) hc1 hL (c := 14) ⟨by omega, by omega⟩ (by omega) hS1 hq hs hv
  obtain ⟨m2, hm2⟩ : ∃ m2, m2 = mrow (mrow m1 (12, 2) R) (12, 4) C := ⟨_, rfl⟩
  rw [← hm2] at e1
  have hc2 : CS ln m2 j V n N w0 r := by rw [hm2]; exact (hc1.rowS _ (by omega) (by omega)).rowS _ (by omega) (by omega)
  have h24 : m2 (12, 4) = C := by rw [hm2, mrow_self]
  obtain ⟨R3, e3, hR3⟩ := k_heed (sh := sh) hL hc2.c2 hc2.c3 hw0 hb.2.2.2.1 (c := 14) (S := lf r) ⟨by omega, by omega⟩ (by omega) (fun w hw => by rw [hm2, mrow_neB (by omega), mrow_neB (by omega)]; exact hS1 w hw)
  rw [h24] at e3 hR3
  have hA : ∀ w, w < N → C w = nI (qA (lf r) r V n N q s v w) := hC
  have hfl : anyN N (fun w => lf r w && decide (¬ C w = C w0)) = anyN N (fun w => lf r w && decide (¬ nI (qA (lf r) r V n N q s v w) = nI (qA (lf r) r V n N q s v w0))) := anyN_congr (fun w hw => by rw [hA w hw, hA w0 hw0])
  rw [hfl] at e3
  obtain ⟨m3, hm3⟩ : ∃ m3, m3 = mrow m2 (12, 14) R3 := ⟨_, rfl⟩
  rw [← hm3] at e3
  have hc3 : CS ln m3 j V n N w0 r := by rw [hm3]; exact hc2.rowS _ (by omega) (by omega)
  have hF3 : FrC (fun c => c = 2 ∨ c = 4 ∨ c = 14) μ m3 := by
    rw [hm3, hm2, hm1]
    exact ((((FrC.rf.mr (by omega)).mr (by omega)).mr (by omega)).mr (by omega))
  have hS3 : ∀ w, w < N → m3 (12, 14) w = bI (lf (qT r V n N w0 q s v) w) := fun w hw => by
    rw [hm3, mrow_self, hR3 w hw]
    unfold qT
    rw [drp_lf hw, hA w hw, hA w0 hw0]
  rw [k_qB h.1 hp hq hs hv h1 h2 hsu hn]
  by_cases cf : anyN N (fun w => lf r w && decide (¬ nI (qA (lf r) r V n N q s v w) = nI (qA (lf r) r V n N q s v w0))) = true
  · obtain ⟨a, ha, hF, e4⟩ := k_que4 (sh := sh) hc3 hL (c := 14) ⟨by omega, by omega⟩ ⟨by omega, by omega⟩ hS3 hp
    refine ⟨a, ha, hF3.tr (hF.mono (fun c hc => by omega)), ?_⟩
    cases cq : q4 (lf (qT r V n N w0 q s v)) r V n N w0 p with
    | none =>
      rw [cq] at e4
      have hv1 : oN none = -nI 1 := rfl
      rw [hv1] at e4
      simp (disch := omega) only [Option.bind_some, Option.map_some, Option.bind_none, q_lit, nI_add, pk_mul, q_sub, q_addn, q_cl, q_le, q_lt, q_eq, q_ck, q_cd, q_cb0, q_cb1, q_div, q_rem, q_shl1, q_shr, q_and, q_or, q_tb, if_pos, if_neg, if_true, if_false, not_true, not_false_iff, eq_self, Bool.true_eq_false, Bool.false_eq_true, q_bI0, q_bI1, q_cbI, Nat.or_zero, mst_row, mrow_neA, mrow_neB, mrow_self, q_upd, f_X5_sureByTwo_L25, h.c0, h.c2, h1, h2, e0, e1, e3, cf, e4, Option.isSome_none, Bool.and_false]
    | some x =>
      have hx : x < 1000 := q4_lt hb.2.1 hb.2.2.2.2.1 cq
      have hne : ¬ nI x = -nI 1 := by
        have h3 : ∀ k, k < 1000 → ¬ nI k = -nI 1 := by decide +kernel
        exact h3 x hx
      rw [cq] at e4
      have hv1 : oN (some x) = nI x := rfl
      rw [hv1] at e4
      simp (disch := omega) only [Option.bind_some, Option.map_some, Option.bind_none, q_lit, nI_add, pk_mul, q_sub, q_addn, q_cl, q_le, q_lt, q_eq, q_ck, q_cd, q_cb0, q_cb1, q_div, q_rem, q_shl1, q_shr, q_and, q_or, q_tb, if_pos, if_neg, if_true, if_false, not_true, not_false_iff, eq_self, Bool.true_eq_false, Bool.false_eq_true, q_bI0, q_bI1, q_cbI, Nat.or_zero, mst_row, mrow_neA, mrow_neB, mrow_self, q_upd, f_X5_sureByTwo_L25, h.c0, h.c2, h1, h2, e0, e1, e3, cf, e4, if_neg hne, Option.isSome_some, Bool.and_self]
  · have cf := Bool.not_eq_true _ ▸ cf
    refine ⟨m3, hc3, hF3, ?_⟩
    simp (disch := omega) only [Option.bind_some, Option.map_some, Option.bind_none, q_lit, nI_add, pk_mul, q_sub, q_addn, q_cl, q_le, q_lt, q_eq, q_ck, q_cd, q_cb0, q_cb1, q_div, q_rem, q_shl1, q_shr, q_and, q_or, q_tb, if_pos, if_neg, if_true, if_false, not_true, not_false_iff, eq_self, Bool.true_eq_false, Bool.false_eq_true, q_bI0, q_bI1, q_cbI, Nat.or_zero, mst_row, mrow_neA, mrow_neB, mrow_self, q_upd, f_X5_sureByTwo_L25, h.c0, h.c2, h1, h2, e0, e1, e3, cf, Bool.false_and]
theorem k_qus2 (h : CS ln μ j V n N w0 r) (hL : LN ln) {p q s : Nat} (hp : p < n) (hq : q < n) (hs : s < n) (hsu : suR r V n N p w0 = false) (hn : q4 (lf r) r V n N w0 p = none) :
    ∃ a, CS ln a j V n N w0 r ∧ FrC (fun c => c = 2 ∨ c = 4 ∨ c = 14) μ a ∧ Wh (fun z : Mm × Int32 => f_X5_sureByTwo_L25 sh ln j (nI p) (nI q) (nI s) z.1 z.2) (μ, nI 0) = some (if qB2 r V n N w0 p q s V = true then .inr (.inr (nI 1, a)) else .inl (a, nI (s + 1))) := by
  have hb := h.1.b
  have hh : ∃ x, Wh (fun z : Mm × Int32 => f_X5_sureByTwo_L25 sh ln j (nI p) (nI q) (nI s) z.1 z.2) (μ, nI 0) = some x ∧ ∃ a, CS ln a j V n N w0 r ∧ FrC (fun c => c = 2 ∨ c = 4 ∨ c = 14) μ a ∧ x = (if qB2 r V n N w0 p q s V = true then .inr (.inr (nI 1, a)) else .inl (a, nI (s + 1))) := by
    by_cases cx : q = p ∨ s = p
    · have hn2 : qB2 r V n N w0 p q s V = false := anyN_of (fun k _ => by
        unfold qB
        rcases cx with cx | cx <;> simp [cx])
      refine ⟨.inl (μ, nI (s + 1)), Wh_end ?_, μ, h, FrC.rf, by rw [hn2]; rfl⟩
      show f_X5_sureByTwo_L25 sh ln j (nI p) (nI q) (nI s) μ (nI 0) = _
      by_cases c1 : q = p
      · simp (disch := omega) only [Option.bind_some, Option.map_some, Option.bind_none, q_lit, nI_add, pk_mul, q_sub, q_addn, q_cl, q_le, q_lt, q_eq, q_ck, q_cd, q_cb0, q_cb1, q_div, q_rem, q_shl1, q_shr, q_and, q_or, q_tb, if_pos, if_neg, if_true, if_false, not_true, not_false_iff, eq_self, Bool.true_eq_false, Bool.false_eq_true, q_bI0, q_bI1, q_cbI, Nat.or_zero, mst_row, mrow_neA, mrow_neB, mrow_self, q_upd, f_X5_sureByTwo_L25, h.c0, c1]
      · have c2 : s = p := cx.resolve_left c1
        simp (disch := omega) only [Option.bind_some, Option.map_some, Option.bind_none, q_lit, nI_add, pk_mul, q_sub, q_addn, q_cl, q_le, q_lt, q_eq, q_ck, q_cd, q_cb0, q_cb1, q_div, q_rem, q_shl1, q_shr, q_and, q_or, q_tb, if_pos, if_neg, if_true, if_false, not_true, not_false_iff, eq_self, Bool.true_eq_false, Bool.false_eq_true, q_bI0, q_bI1, q_cbI, Nat.or_zero, mst_row, mrow_neA, mrow_neB, mrow_self, q_upd, f_X5_sureByTwo_L25, h.c0, c1, c2]
    · have c1 : ¬ q = p := fun e => cx (Or.inl e)
      have c2 : ¬ s = p := fun e => cx (Or.inr e)
      refine Wh_inv V (fun k z => ∃ a, z = (a, nI k) ∧ CS ln a j V n N w0 r ∧ FrC (fun c => c = 2 ∨ c = 4 ∨ c = 14) μ a ∧ qB2 r V n N w0 p q s k = false) _ ⟨μ, rfl, h, FrC.rf, rfl⟩ ?_ ?_
      · rintro k _ hk ⟨a, rfl, ha, hF, hn2⟩
        obtain ⟨a2, ha2, hF2, e2⟩ := k_qus1 (sh := sh) ha hL hp hq hs hk c1 c2 hsu hn
        by_cases c3 : qB r V n N w0 p q s k = true
        · right
          rw [if_pos c3] at e2
          have : qB2 r V n N w0 p q s V = true := anyN_iff.mpr ⟨k, hk, c3⟩
          exact ⟨.inr (.inr (nI 1, a2)), e2, a2, ha2, hF.tr hF2, by rw [this]; rfl⟩
        · left
          rw [if_neg c3] at e2
          refine ⟨(a2, nI (k + 1)), e2, a2, rfl, ha2, hF.tr hF2, ?_⟩
          show (qB2 r V n N w0 p q s k || qB r V n N w0 p q s k) = false
          rw [hn2, Bool.eq_false_iff.mpr c3]; rfl
      · rintro _ ⟨a, rfl, ha, hF, hn2⟩
        refine ⟨.inl (a, nI (s + 1)), ?_, a, ha, hF, by rw [hn2]; rfl⟩
        show f_X5_sureByTwo_L25 sh ln j (nI p) (nI q) (nI s) a (nI V) = _
        simp (disch := omega) only [Option.bind_some, Option.map_some, Option.bind_none, q_lit, nI_add, pk_mul, q_sub, q_addn, q_cl, q_le, q_lt, q_eq, q_ck, q_cd, q_cb0, q_cb1, q_div, q_rem, q_shl1, q_shr, q_and, q_or, q_tb, if_pos, if_neg, if_true, if_false, not_true, not_false_iff, eq_self, Bool.true_eq_false, Bool.false_eq_true, q_bI0, q_bI1, q_cbI, Nat.or_zero, mst_row, mrow_neA, mrow_neB, mrow_self, q_upd, f_X5_sureByTwo_L25, ha.c0, Nat.le_refl]
  obtain ⟨_, e, a, h1, h2, rfl⟩ := hh
  exact ⟨a, h1, h2, e⟩
theorem k_qus3 (h : CS ln μ j V n N w0 r) (hL : LN ln) {p q : Nat} (hp : p < n) (hq : q < n) (hsu : suR r V n N p w0 = false) (hn : q4 (lf r) r V n N w0 p = none) :
    ∃ a, CS ln a j V n N w0 r ∧ FrC (fun c => c = 2 ∨ c = 4 ∨ c = 14) μ a ∧ Wh (fun z : Mm × Int32 => f_X5_sureByTwo_L13 sh ln j (nI p) (nI q) z.1 z.2) (μ, nI 0) = some (if qB3 r V n N w0 p q n = true then .inr (nI 1, a) else .inl (a, nI (q + 1))) := by
  have hb := h.1.b
  have hh : ∃ x, Wh (fun z : Mm × Int32 => f_X5_sureByTwo_L13 sh ln j (nI p) (nI q) z.1 z.2) (μ, nI 0) = some x ∧ ∃ a, CS ln a j V n N w0 r ∧ FrC (fun c => c = 2 ∨ c = 4 ∨ c = 14) μ a ∧ x = (if qB3 r V n N w0 p q n = true then .inr (nI 1, a) else .inl (a, nI (q + 1))) := by
    refine Wh_inv n (fun k z => ∃ a, z = (a, nI k) ∧ CS ln a j V n N w0 r ∧ FrC (fun c => c = 2 ∨ c = 4 ∨ c = 14) μ a ∧ qB3 r V n N w0 p q k = false) _ ⟨μ, rfl, h, FrC.rf, rfl⟩ ?_ ?_
    · rintro k _ hk ⟨a, rfl, ha, hF, hn2⟩
      obtain ⟨a2, ha2, hF2, e2⟩ := k_qus2 (sh := sh) ha hL hp hq hk hsu hn
      by_cases c3 : qB2 r V n N w0 p q k V = true
      · right
        rw [if_pos c3] at e2
        have : qB3 r V n N w0 p q n = true := anyN_iff.mpr ⟨k, hk, c3⟩
        refine ⟨.inr (nI 1, a2), ?_, a2, ha2, hF.tr hF2, by rw [this]; rfl⟩
        show f_X5_sureByTwo_L13 sh ln j (nI p) (nI q) a (nI k) = _
        simp (disch := omega) only [Option.bind_some, Option.map_some, Option.bind_none, q_lit, nI_add, pk_mul, q_sub, q_addn, q_cl, q_le, q_lt, q_eq, q_ck, q_cd, q_cb0, q_cb1, q_div, q_rem, q_shl1, q_shr, q_and, q_or, q_tb, if_pos, if_neg, if_true, if_false, not_true, not_false_iff, eq_self, Bool.true_eq_false, Bool.false_eq_true, q_bI0, q_bI1, q_cbI, Nat.or_zero, mst_row, mrow_neA, mrow_neB, mrow_self, q_upd, f_X5_sureByTwo_L13, ha.c1, e2]
      · left
        rw [if_neg c3] at e2
        refine ⟨(a2, nI (k + 1)), ?_, a2, rfl, ha2, hF.tr hF2, ?_⟩
        · show f_X5_sureByTwo_L13 sh ln j (nI p) (nI q) a (nI k) = _
          simp (disch := omega) only [Option.bind_some, Option.map_some, Option.bind_none, q_lit, nI_add, pk_mul, q_sub, q_addn, q_cl, q_le, q_lt, q_eq, q_ck, q_cd, q_cb0, q_cb1, q_div, q_rem, q_shl1, q_shr, q_and, q_or, q_tb, if_pos, if_neg, if_true, if_false, not_true, not_false_iff, eq_self, Bool.true_eq_false, Bool.false_eq_true, q_bI0, q_bI1, q_cbI, Nat.or_zero, mst_row, mrow_neA, mrow_neB, mrow_self, q_upd, f_X5_sureByTwo_L13, ha.c1, e2]
        · show (qB3 r V n N w0 p q k || qB2 r V n N w0 p q k V) = false
          rw [hn2, Bool.eq_false_iff.mpr c3]; rfl
    · rintro _ ⟨a, rfl, ha, hF, hn2⟩
      refine ⟨.inl (a, nI (q + 1)), ?_, a, ha, hF, by rw [hn2]; rfl⟩
      show f_X5_sureByTwo_L13 sh ln j (nI p) (nI q) a (nI n) = _
      simp (disch := omega) only [Option.bind_some, Option.map_some, Option.bind_none, q_lit, nI_add, pk_mul, q_sub, q_addn, q_cl, q_le, q_lt, q_eq, q_ck, q_cd, q_cb0, q_cb1, q_div, q_rem, q_shl1, q_shr, q_and, q_or, q_tb, if_pos, if_neg, if_true, if_false, not_true, not_false_iff, eq_self, Bool.true_eq_false, Bool.false_eq_true, q_bI0, q_bI1, q_cbI, Nat.or_zero, mst_row, mrow_neA, mrow_neB, mrow_self, q_upd, f_X5_sureByTwo_L13, ha.c1, Nat.le_refl]
  obtain ⟨_, e, a, h1, h2, rfl⟩ := hh
  exact ⟨a, h1, h2, e⟩
theorem k_qus4 (h : CS ln μ j V n N w0 r) (hL : LN ln) {p : Nat} (hp : p < n) (hsu : suR r V n N p w0 = false) (hn : q4 (lf r) r V n N w0 p = none) :
    ∃ a, CS ln a j V n N w0 r ∧ FrC (fun c => c = 2 ∨ c = 4 ∨ c = 14) μ a ∧ f_X5_sureByTwo sh ln j μ (nI p) = some (bI (qB4 r V n N w0 p n), a) := by
  have hb := h.1.b
  have hh : ∃ x, f_X5_sureByTwo sh ln j μ (nI p) = some x ∧ ∃ a, CS ln a j V n N w0 r ∧ FrC (fun c => c = 2 ∨ c = 4 ∨ c = 14) μ a ∧ x = (bI (qB4 r V n N w0 p n), a) := by
    unfold f_X5_sureByTwo
    refine Wh_inv n (fun k z => ∃ a, z = (a, nI k) ∧ CS ln a j V n N w0 r ∧ FrC (fun c => c = 2 ∨ c = 4 ∨ c = 14) μ a ∧ qB4 r V n N w0 p k = false) _ ⟨μ, rfl, h, FrC.rf, rfl⟩ ?_ ?_
    · rintro k _ hk ⟨a, rfl, ha, hF, hn2⟩
      obtain ⟨a2, ha2, hF2, e2⟩ := k_qus3 (sh := sh) ha hL hp hk hsu hn
      by_cases c3 : qB3 r V n N w0 p k n = true
      · right
        rw [if_pos c3] at e2
        have : qB4 r V n N w0 p n = true := anyN_iff.mpr ⟨k, hk, c3⟩
        refine ⟨(nI 1, a2), ?_, a2, ha2, hF.tr hF2, by rw [this]; rfl⟩
        show f_X5_sureByTwo_L2 sh ln j (nI p) a (nI k) = _
        simp (disch := omega) only [Option.bind_some, Option.map_some, Option.bind_none, q_lit, nI_add, pk_mul, q_sub, q_addn, q_cl, q_le, q_lt, q_eq, q_ck, q_cd, q_cb0, q_cb1, q_div, q_rem, q_shl1, q_shr, q_and, q_or, q_tb, if_pos, if_neg, if_true, if_false, not_true, not_false_iff, eq_self, Bool.true_eq_false, Bool.false_eq_true, q_bI0, q_bI1, q_cbI, Nat.or_zero, mst_row, mrow_neA, mrow_neB, mrow_self, q_upd, f_X5_sureByTwo_L2, ha.c1, e2]
      · left
        rw [if_neg c3] at e2
        refine ⟨(a2, nI (k + 1)), ?_, a2, rfl, ha2, hF.tr hF2, ?_⟩
        · show f_X5_sureByTwo_L2 sh ln j (nI p) a (nI k) = _
          simp (disch := omega) only [Option.bind_some, Option.map_some, Option.bind_none, q_lit, nI_add, pk_mul, q_sub, q_addn, q_cl, q_le, q_lt, q_eq, q_ck, q_cd, q_cb0, q_cb1, q_div, q_rem, q_shl1, q_shr, q_and, q_or, q_tb, if_pos, if_neg, if_true, if_false, not_true, not_false_iff, eq_self, Bool.true_eq_false, Bool.false_eq_true, q_bI0, q_bI1, q_cbI, Nat.or_zero, mst_row, mrow_neA, mrow_neB, mrow_self, q_upd, f_X5_sureByTwo_L2, ha.c1, e2]
        · show (qB4 r V n N w0 p k || qB3 r V n N w0 p k n) = false
          rw [hn2, Bool.eq_false_iff.mpr c3]; rfl
    · rintro _ ⟨a, rfl, ha, hF, hn2⟩
      refine ⟨(nI 0, a), ?_, a, ha, hF, by rw [hn2]; rfl⟩
      show f_X5_sureByTwo_L2 sh ln j (nI p) a (nI n) = _
      simp (disch := omega) only [Option.bind_some, Option.map_some, Option.bind_none, q_lit, nI_add, pk_mul, q_sub, q_addn, q_cl, q_le, q_lt, q_eq, q_ck, q_cd, q_cb0, q_cb1, q_div, q_rem, q_shl1, q_shr, q_and, q_or, q_tb, if_pos, if_neg, if_true, if_false, not_true, not_false_iff, eq_self, Bool.true_eq_false, Bool.false_eq_true, q_bI0, q_bI1, q_cbI, Nat.or_zero, mst_row, mrow_neA, mrow_neB, mrow_self, q_upd, f_X5_sureByTwo_L2, ha.c1, Nat.le_refl]
  obtain ⟨_, e, a, h1, h2, rfl⟩ := hh
  exact ⟨a, h1, h2, e⟩
theorem k_queries (h : CS ln μ j V n N w0 r) (hL : LN ln) {p : Nat} (hp : p < n) : ∃ a, CS ln a j V n N w0 r ∧ FrC (fun c => c = 2 ∨ c = 4 ∨ c = 14) μ a ∧ f_X5_fewestQueries sh ln j μ (nI p) = some (qus r V n N w0 p, a) := by
  have hb := h.1.b
  have hw0 := hb.2.2.2.2.2
  unfold qus
  by_cases c : 6 < n
  · refine ⟨μ, h, FrC.rf, ?_⟩
    rw [if_pos c]
    simp (disch := omega) only [Option.bind_some, Option.map_some, Option.bind_none, q_lit, nI_add, pk_mul, q_sub, q_addn, q_cl, q_le, q_lt, q_eq, q_ck, q_cd, q_cb0, q_cb1, q_div, q_rem, q_shl1, q_shr, q_and, q_or, q_tb, if_pos, if_neg, if_true, if_false, not_true, not_false_iff, eq_self, Bool.true_eq_false, Bool.false_eq_true, q_bI0, q_bI1, q_cbI, Nat.or_zero, mst_row, mrow_neA, mrow_neB, mrow_self, q_upd, f_X5_fewestQueries, h.c1]
  · rw [if_neg c]
    have e1 : f_X4_isSure sh ln j (15 + 5 * j + 2) μ (nI p) (nI w0) = some (bI (suR r V n N p w0)) := k_isSure h h.stl h.stay hp hw0
    by_cases c2 : suR r V n N p w0 = true
    · refine ⟨μ, h, FrC.rf, ?_⟩
      rw [if_pos c2]
      simp (disch := omega) only [Option.bind_some, Option.map_some, Option.bind_none, q_lit, nI_add, pk_mul, q_sub, q_addn, q_cl, q_le, q_lt, q_eq, q_ck, q_cd, q_cb0, q_cb1, q_div, q_rem, q_shl1, q_shr, q_and, q_or, q_tb, if_pos, if_neg, if_true, if_false, not_true, not_false_iff, eq_self, Bool.true_eq_false, Bool.false_eq_true, q_bI0, q_bI1, q_cbI, Nat.or_zero, mst_row, mrow_neA, mrow_neB, mrow_self, q_upd, f_X5_fewestQueries, h.c1, h.c3, e1, c2]
    · have c3 := Bool.not_eq_true _ ▸ c2
      rw [if_neg c2]
      obtain ⟨a2, h2, hF2, e2⟩ := k_que4 (sh := sh) h hL h.stl ⟨by omega, by omega⟩ h.stay hp
      have hF : FrC (fun c => c = 2 ∨ c = 4 ∨ c = 14) μ a2 := hF2.mono (fun c hc => by omega)
      have hq : qsn r V n N w0 p = q4 (lf r) r V n N w0 p := if_neg c2
      rw [hq]
      cases cq : q4 (lf r) r V n N w0 p with
      | none =>
        rw [cq] at e2
        have hv1 : oN none = -nI 1 := rfl
        rw [hv1] at e2
        obtain ⟨a3, h3, hF3, e3⟩ := k_qus4 (sh := sh) h2 hL hp c3 cq
        refine ⟨a3, h3, hF.tr hF3, ?_⟩
        cases c4 : qB4 r V n N w0 p n
        · rw [c4] at e3
          simp (disch := omega) only [Option.bind_some, Option.map_some, Option.bind_none, q_lit, nI_add, pk_mul, q_sub, q_addn, q_cl, q_le, q_lt, q_eq, q_ck, q_cd, q_cb0, q_cb1, q_div, q_rem, q_shl1, q_shr, q_and, q_or, q_tb, if_pos, if_neg, if_true, if_false, not_true, not_false_iff, eq_self, Bool.true_eq_false, Bool.false_eq_true, q_bI0, q_bI1, q_cbI, Nat.or_zero, mst_row, mrow_neA, mrow_neB, mrow_self, q_upd, f_X5_fewestQueries, h.c1, h.c3, e1, c3, e2, e3, Option.isSome_none]
        · rw [c4] at e3
          simp (disch := omega) only [Option.bind_some, Option.map_some, Option.bind_none, q_lit, nI_add, pk_mul, q_sub, q_addn, q_cl, q_le, q_lt, q_eq, q_ck, q_cd, q_cb0, q_cb1, q_div, q_rem, q_shl1, q_shr, q_and, q_or, q_tb, if_pos, if_neg, if_true, if_false, not_true, not_false_iff, eq_self, Bool.true_eq_false, Bool.false_eq_true, q_bI0, q_bI1, q_cbI, Nat.or_zero, mst_row, mrow_neA, mrow_neB, mrow_self, q_upd, f_X5_fewestQueries, h.c1, h.c3, e1, c3, e2, e3, Option.isSome_none]
      | some x =>
        have hx : x < 1000 := q4_lt hb.2.1 hb.2.2.2.2.1 cq
        have hne : ¬ nI x = -nI 1 := by
          have h3 : ∀ k, k < 1000 → ¬ nI k = -nI 1 := by decide +kernel
          exact h3 x hx
        rw [cq] at e2
        have hv1 : oN (some x) = nI x := rfl
        rw [hv1] at e2
        refine ⟨a2, h2, hF, ?_⟩
        simp (disch := omega) only [Option.bind_some, Option.map_some, Option.bind_none, q_lit, nI_add, pk_mul, q_sub, q_addn, q_cl, q_le, q_lt, q_eq, q_ck, q_cd, q_cb0, q_cb1, q_div, q_rem, q_shl1, q_shr, q_and, q_or, q_tb, if_pos, if_neg, if_true, if_false, not_true, not_false_iff, eq_self, Bool.true_eq_false, Bool.false_eq_true, q_bI0, q_bI1, q_cbI, Nat.or_zero, mst_row, mrow_neA, mrow_neB, mrow_self, q_upd, f_X5_fewestQueries, h.c1, h.c3, e1, c3, e2, Option.isSome_some]
        exact if_neg hne
end QUSK
