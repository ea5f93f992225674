-- the reference: who is sure; what came is dropped, told apart, told
theorem poss_ne0 {lf : Nat → Bool} {lb fg : Nat → Nat} {m w : Nat} (hw : w < m) (hl : lf w = true) : poss lf lb fg m (lb w) ≠ 0 := by
  intro e
  have h := (poss_tb (lf := lf) (lb := lb) (fg := fg) (m := m) (k := lb w) (fg w)).mpr ⟨w, hw, hl, rfl, rfl⟩
  rw [e] at h
  simp at h
theorem one_sur {m : Nat} (h : m ≠ 0) : one m = sur m := by
  unfold sur
  simp [h]
/-- whether one is sure in a world -/
def suR (r : Nat → Int32) (V n N p w : Nat) : Bool := sur (poss (lf r) (lab r p) (fig V n p) N (lab r p w))
def suO (r : Nat → Int32) (V n N w : Nat) (m : Nat) : Nat := orN m (fun p => if suR r V n N p w = true then 2 ^ p else 0)
theorem suO_lt {r : Nat → Int32} {V n N w m b : Nat} (hb : m ≤ b) : suO r V n N w m < 2 ^ b := by
  refine orN_lt (fun p hp => ?_)
  split
  · exact Nat.pow_lt_pow_right (by decide) (by omega)
  · exact Nat.two_pow_pos _
theorem suO_512 {r : Nat → Int32} {V n N w m : Nat} (hb : m ≤ 9) : suO r V n N w m < 512 := suO_lt (b := 9) hb
/-- a row of worlds left, less those in which something else came; the first m worlds are through -/
def drp (c : Nat → Int32) (m w0 : Nat) (r : Nat → Int32) : Nat → Int32 := fun i => if 20 ≤ i ∧ i < 20 + m ∧ ¬ c (i - 20) = c w0 then nI 0 else r i
theorem drp_ne {c : Nat → Int32} {m w0 : Nat} {r : Nat → Int32} {i : Nat} (h : i < 20 ∨ 20 + m ≤ i) : drp c m w0 r i = r i := if_neg (by omega)
theorem drp_at {c : Nat → Int32} {m w0 : Nat} {r : Nat → Int32} {w : Nat} (h : w < m) : drp c m w0 r (20 + w) = if c w = c w0 then r (20 + w) else nI 0 := by
  unfold drp
  rw [show 20 + w - 20 = w by omega]
  by_cases e : c w = c w0
  · rw [if_neg (by simp [e]), if_pos e]
  · rw [if_pos ⟨by omega, by omega, e⟩, if_neg e]
theorem drp_lf {c : Nat → Int32} {m w0 : Nat} {r : Nat → Int32} {w : Nat} (h : w < m) : lf (drp c m w0 r) w = (lf r w && decide (c w = c w0)) := by
  unfold lf
  rw [drp_at h]
  by_cases e : c w = c w0
  · simp [e]
  · simp [e]; decide
theorem drp_lab {c : Nat → Int32} {m w0 : Nat} {r : Nat → Int32} (hm : m ≤ 512) (p w : Nat) : lab (drp c m w0 r) p w = lab r p w := by
  unfold lab
  rw [drp_ne (by omega)]
theorem drp_se {c : Nat → Int32} {m w0 : Nat} {r : Nat → Int32} {p : Nat} (hp : p < 9) : se (drp c m w0 r) p = se r p := by
  unfold se
  rw [drp_ne (by omega)]
theorem drp_WF {V n N w0 : Nat} {r : Nat → Int32} (c : Nat → Int32) (h : WF V n N w0 r) : WF V n N w0 (drp c N w0 r) := by
  have hb := h.b
  refine ⟨h.1, ⟨?_, ?_, ?_, ?_⟩, ?_, ?_, ?_, ?_, ?_, ?_, ?_, ?_⟩
  · rw [drp_ne (by omega)]; exact h.v0
  · rw [drp_ne (by omega)]; exact h.v1
  · rw [drp_ne (by omega)]; exact h.v10
  · rw [drp_ne (by omega)]; exact h.v6
  · intro w hw
    rw [drp_lf hw, drp_at hw]
    by_cases e : c w = c w0
    · simp [e, h.hl hw]
    · simp [e, bI]
  · rw [drp_lf hb.2.2.2.2.2, h.h0]; simp
  · intro p w hp hw
    rw [drp_lab hb.2.2.2.1, drp_ne (by omega)]
    exact h.hb hp hw
  · intro p hp
    rw [drp_se (by omega), drp_ne (by omega)]
    exact h.hs hp
  · rw [drp_ne (by omega)]; exact h.hg
  · rw [drp_ne (by omega)]; exact h.2.2.2.2.2.2.2.1
  · rw [drp_ne (by omega)]; exact h.2.2.2.2.2.2.2.2.1
  · rw [drp_ne (by omega)]; exact h.2.2.2.2.2.2.2.2.2
theorem drp_congr {V n N w0 : Nat} {r c c' : Nat → Int32} (h : WF V n N w0 r) (hc : ∀ w, w < N → lf r w = true → (c w = c w0 ↔ c' w = c' w0)) : drp c N w0 r = drp c' N w0 r := by
  funext i
  by_cases hi : 20 ≤ i ∧ i < 20 + N
  · obtain ⟨w, rfl⟩ : ∃ w, i = 20 + w := ⟨i - 20, by omega⟩
    rw [drp_at (by omega), drp_at (by omega)]
    have h1 := h.hl (w := w) (by omega)
    by_cases hl : lf r w = true
    · have h2 := hc w (by omega) hl
      by_cases e : c w = c w0
      · rw [if_pos e, if_pos (h2.mp e)]
      · rw [if_neg e, if_neg (fun x => e (h2.mpr x))]
    · have hl := Bool.not_eq_true _ ▸ hl
      rw [hl] at h1
      rw [h1]
      simp [bI]
  · rw [drp_ne (by omega), drp_ne (by omega)]
section REFB
variable {μ : Mm} {V n N w0 : Nat} {r : Nat → Int32}
theorem q_possibleOf (h : RS μ V n N w0 r) {p q w : Nat} (hp : p < n) (hq : q < n) (hw : w < N) : ∃ R, f_X11_possibleOf μ (nI p) (nI q) (nI w) = some (nI (poss (lf r) (lab r p) (fig V n q) N (lab r p w)), mrow μ (8, 0) R) := by
  have hb := h.2.b
  obtain ⟨_, e, R, rfl, hR⟩ := q_lays h hp hq
  have h' := h.row (a := 8) (b := 0) R (by omega)
  have hl := (h.2.hb hp hw).2
  refine ⟨R, ?_⟩
  simp (disch := omega) only [Option.bind_some, Option.map_some, Option.bind_none, q_lit, nI_add, pk_mul, q_sub, q_addn, q_cl, q_le, q_lt, q_eq, q_ck, q_cd, q_cb0, q_cb1, q_div, q_rem, q_shl1, q_shr, q_and, q_or, q_tb, if_pos, if_neg, if_true, if_false, not_true, not_false_iff, eq_self, Bool.true_eq_false, Bool.false_eq_true, q_bI0, q_bI1, q_cbI, Nat.or_zero, mst_row, mrow_neA, mrow_neB, mrow_self, q_upd, f_X11_possibleOf, e, q_label h' hp hw, hR (lab r p w) (by omega)]
theorem q_isSure (h : RS μ V n N w0 r) {p w : Nat} (hp : p < n) (hw : w < N) (hl : lf r w = true) : ∃ R, f_X11_isSure μ (nI p) (nI w) = some (bI (suR r V n N p w), mrow μ (8, 0) R) := by
  have hb := h.2.b
  obtain ⟨R, e⟩ := q_possibleOf h hp hp hw
  have h1 : poss (lf r) (lab r p) (fig V n p) N (lab r p w) < 16 := poss_16 ⟨hb.1, hb.2.1⟩
  refine ⟨R, ?_⟩
  simp (disch := omega) only [Option.bind_some, Option.map_some, Option.bind_none, q_lit, nI_add, pk_mul, q_sub, q_addn, q_cl, q_le, q_lt, q_eq, q_ck, q_cd, q_cb0, q_cb1, q_div, q_rem, q_shl1, q_shr, q_and, q_or, q_tb, if_pos, if_neg, if_true, if_false, not_true, not_false_iff, eq_self, Bool.true_eq_false, Bool.false_eq_true, q_bI0, q_bI1, q_cbI, Nat.or_zero, mst_row, mrow_neA, mrow_neB, mrow_self, q_upd, f_X11_isSure, e, q_isOne (show poss (lf r) (lab r p) (fig V n p) N (lab r p w) < 2147483648 by omega), one_sur (poss_ne0 (lb := lab r p) (fg := fig V n p) hw hl)]
  rfl
theorem q_sureOnes (h : RS μ V n N w0 r) {w : Nat} (hw : w < N) (hl : lf r w = true) : ∃ R, f_X11_sureOnes μ (nI w) = some (nI (suO r V n N w n), mrow μ (8, 0) R) := by
  have hb := h.2.b
  have hh : ∃ x, f_X11_sureOnes μ (nI w) = some x ∧ ∃ R, x = (nI (suO r V n N w n), mrow μ (8, 0) R) := by
    unfold f_X11_sureOnes
    refine Wh_inv1 n (fun k s => ∃ R, s = (mrow μ (8, 0) R, nI (suO r V n N w k), nI k)) _ ⟨μ (8, 0), by rw [mrow_id]; rfl⟩ ?_ ?_
    · rintro k _ hk ⟨R, rfl⟩
      have h' := h.row (a := 8) (b := 0) R (by omega)
      obtain ⟨R2, e⟩ := q_isSure h' hk hw hl
      refine ⟨(mrow μ (8, 0) R2, nI (suO r V n N w (k + 1)), nI (k + 1)), ?_, R2, rfl⟩
      show f_X11_sureOnes_L4 (nI w) (mrow μ (8, 0) R) (nI (suO r V n N w k)) (nI k) = _
      have es : suO r V n N w (k + 1) = suO r V n N w k ||| (if suR r V n N k w = true then 2 ^ k else 0) := rfl
      rw [es]
      by_cases c : suR r V n N k w = true
      · simp (disch := omega) only [Option.bind_some, Option.map_some, Option.bind_none, q_lit, nI_add, pk_mul, q_sub, q_addn, q_cl, q_le, q_lt, q_eq, q_ck, q_cd, q_cb0, q_cb1, q_div, q_rem, q_shl1, q_shr, q_and, q_or, q_tb, if_pos, if_neg, if_true, if_false, not_true, not_false_iff, eq_self, Bool.true_eq_false, Bool.false_eq_true, q_bI0, q_bI1, q_cbI, Nat.or_zero, mst_row, mrow_neA, mrow_neB, mrow_self, q_upd, f_X11_sureOnes_L4, q_people h', e, c, mrow_mrow]
      · have c := Bool.not_eq_true _ ▸ c
        simp (disch := omega) only [Option.bind_some, Option.map_some, Option.bind_none, q_lit, nI_add, pk_mul, q_sub, q_addn, q_cl, q_le, q_lt, q_eq, q_ck, q_cd, q_cb0, q_cb1, q_div, q_rem, q_shl1, q_shr, q_and, q_or, q_tb, if_pos, if_neg, if_true, if_false, not_true, not_false_iff, eq_self, Bool.true_eq_false, Bool.false_eq_true, q_bI0, q_bI1, q_cbI, Nat.or_zero, mst_row, mrow_neA, mrow_neB, mrow_self, q_upd, f_X11_sureOnes_L4, q_people h', e, c, mrow_mrow, Nat.or_zero]
    · rintro _ ⟨R, rfl⟩
      have h' := h.row (a := 8) (b := 0) R (by omega)
      refine ⟨_, ?_, R, rfl⟩
      show f_X11_sureOnes_L4 (nI w) (mrow μ (8, 0) R) (nI (suO r V n N w n)) (nI n) = _
      simp (disch := omega) only [Option.bind_some, Option.map_some, Option.bind_none, q_lit, nI_add, pk_mul, q_sub, q_addn, q_cl, q_le, q_lt, q_eq, q_ck, q_cd, q_cb0, q_cb1, q_div, q_rem, q_shl1, q_shr, q_and, q_or, q_tb, if_pos, if_neg, if_true, if_false, not_true, not_false_iff, eq_self, Bool.true_eq_false, Bool.false_eq_true, q_bI0, q_bI1, q_cbI, Nat.or_zero, mst_row, mrow_neA, mrow_neB, mrow_self, q_upd, f_X11_sureOnes_L4, q_people h', Nat.le_refl]
  obtain ⟨_, e, R, rfl⟩ := hh
  exact ⟨R, e⟩
theorem q_drops (h : RS μ V n N w0 r) : f_X11_drops μ = some (mrow μ (1, 0) (drp (μ (9, 0)) N w0 r)) := by
  have hb := h.2.b
  unfold f_X11_drops
  refine Wh_it N (fun k => (mrow μ (1, 0) (drp (μ (9, 0)) k w0 r), nI k)) ?_ (fun k hk => ?_) ?_
  · have e : drp (μ (9, 0)) 0 w0 r = r := by funext i; exact if_neg (by omega)
    rw [e, ← h.1, mrow_id]; rfl
  · show f_X11_drops_L2 (mrow μ (1, 0) (drp (μ (9, 0)) k w0 r)) (nI k) = some (.inl (mrow μ (1, 0) (drp (μ (9, 0)) (k + 1) w0 r), nI (k + 1)))
    have e10 : drp (μ (9, 0)) k w0 r 10 = nI N := by rw [drp_ne (by omega)]; exact h.2.v10
    have e6 : drp (μ (9, 0)) k w0 r 6 = nI w0 := by rw [drp_ne (by omega)]; exact h.2.v6
    by_cases c : μ (9, 0) k = μ (9, 0) w0
    · have e : drp (μ (9, 0)) (k + 1) w0 r = drp (μ (9, 0)) k w0 r := by
        funext i
        unfold drp
        by_cases hi : i = 20 + k
        · subst hi
          rw [show 20 + k - 20 = k by omega, if_neg (by simp [c]), if_neg (by omega)]
        · have : (20 ≤ i ∧ i < 20 + (k + 1) ∧ ¬ μ (9, 0) (i - 20) = μ (9, 0) w0) ↔ (20 ≤ i ∧ i < 20 + k ∧ ¬ μ (9, 0) (i - 20) = μ (9, 0) w0) := ⟨fun x => ⟨x.1, by omega, x.2.2⟩, fun x => ⟨x.1, by omega, x.2.2⟩⟩
          simp only [this]
      simp (disch := omega) only [Option.bind_some, Option.map_some, Option.bind_none, q_lit, nI_add, pk_mul, q_sub, q_addn, q_cl, q_le, q_lt, q_eq, q_ck, q_cd, q_cb0, q_cb1, q_div, q_rem, q_shl1, q_shr, q_and, q_or, q_tb, if_pos, if_neg, if_true, if_false, not_true, not_false_iff, eq_self, Bool.true_eq_false, Bool.false_eq_true, q_bI0, q_bI1, q_cbI, Nat.or_zero, mst_row, mrow_neA, mrow_neB, mrow_self, q_upd, f_X11_drops_L2, f_X11_worlds, f_X11_here, e10, e6, c, e]
    · have e : upd (drp (μ (9, 0)) k w0 r) (20 + k) (nI 0) = drp (μ (9, 0)) (k + 1) w0 r := by
        funext i
        unfold drp
        rw [q_upd]
        by_cases hi : i = 20 + k
        · subst hi
          rw [show 20 + k - 20 = k by omega, if_pos rfl, if_pos ⟨by omega, by omega, c⟩]
        · have : (20 ≤ i ∧ i < 20 + (k + 1) ∧ ¬ μ (9, 0) (i - 20) = μ (9, 0) w0) ↔ (20 ≤ i ∧ i < 20 + k ∧ ¬ μ (9, 0) (i - 20) = μ (9, 0) w0) := ⟨fun x => ⟨x.1, by omega, x.2.2⟩, fun x => ⟨x.1, by omega, x.2.2⟩⟩
          simp only [this, if_neg hi]
      simp (disch := omega) only [Option.bind_some, Option.map_some, Option.bind_none, q_lit, nI_add, pk_mul, q_sub, q_addn, q_cl, q_le, q_lt, q_eq, q_ck, q_cd, q_cb0, q_cb1, q_div, q_rem, q_shl1, q_shr, q_and, q_or, q_tb, if_pos, if_neg, if_true, if_false, not_true, not_false_iff, eq_self, Bool.true_eq_false, Bool.false_eq_true, q_bI0, q_bI1, q_cbI, Nat.or_zero, mst_row, mrow_neA, mrow_neB, mrow_self, q_upd, f_X11_drops_L2, f_X11_worlds, f_X11_here, e10, e6, c, mrow_mrow, e]
  · show f_X11_drops_L2 (mrow μ (1, 0) (drp (μ (9, 0)) N w0 r)) (nI N) = _
    have e10 : drp (μ (9, 0)) N w0 r 10 = nI N := by rw [drp_ne (by omega)]; exact h.2.v10
    simp (disch := omega) only [Option.bind_some, Option.map_some, Option.bind_none, q_lit, nI_add, pk_mul, q_sub, q_addn, q_cl, q_le, q_lt, q_eq, q_ck, q_cd, q_cb0, q_cb1, q_div, q_rem, q_shl1, q_shr, q_and, q_or, q_tb, if_pos, if_neg, if_true, if_false, not_true, not_false_iff, eq_self, Bool.true_eq_false, Bool.false_eq_true, q_bI0, q_bI1, q_cbI, Nat.or_zero, mst_row, mrow_neA, mrow_neB, mrow_self, q_upd, f_X11_drops_L2, f_X11_worlds, e10, Nat.le_refl]
theorem q_noticesCome (h : RS μ V n N w0 r) {p : Nat} (hp : p < n) : ∃ C, f_X11_noticesCome μ (nI p) = some (mrow μ (9, 0) C) ∧ ∀ w, w < N → C w = nI (fig V n p w) := by
  have hb := h.2.b
  have hh : ∃ x, f_X11_noticesCome μ (nI p) = some x ∧ ∃ C, x = mrow μ (9, 0) C ∧ ∀ w, w < N → C w = nI (fig V n p w) := by
    unfold f_X11_noticesCome
    refine Wh_inv1 N (fun k s => ∃ C, s = (mrow μ (9, 0) C, nI k) ∧ ∀ w, w < k → C w = nI (fig V n p w)) _ ⟨μ (9, 0), by rw [mrow_id]; rfl, fun i hi => by omega⟩ ?_ ?_
    · rintro k _ hk ⟨C, rfl, hC⟩
      have h' := h.row (a := 9) (b := 0) C (by omega)
      refine ⟨(mrow μ (9, 0) (upd C k (nI (fig V n p k))), nI (k + 1)), ?_, _, rfl, ?_⟩
      · show f_X11_noticesCome_L2 (nI p) (mrow μ (9, 0) C) (nI k) = _
        simp (disch := omega) only [Option.bind_some, Option.map_some, Option.bind_none, q_lit, nI_add, pk_mul, q_sub, q_addn, q_cl, q_le, q_lt, q_eq, q_ck, q_cd, q_cb0, q_cb1, q_div, q_rem, q_shl1, q_shr, q_and, q_or, q_tb, if_pos, if_neg, if_true, if_false, not_true, not_false_iff, eq_self, Bool.true_eq_false, Bool.false_eq_true, q_bI0, q_bI1, q_cbI, Nat.or_zero, mst_row, mrow_neA, mrow_neB, mrow_self, q_upd, f_X11_noticesCome_L2, q_worlds h', q_noticeIn h' hp hk, mrow_mrow]
      · intro w hw
        rw [q_upd]
        by_cases e : w = k
        · rw [if_pos e, e]
        · rw [if_neg e]; exact hC w (by omega)
    · rintro _ ⟨C, rfl, hC⟩
      have h' := h.row (a := 9) (b := 0) C (by omega)
      refine ⟨_, ?_, C, rfl, hC⟩
      show f_X11_noticesCome_L2 (nI p) (mrow μ (9, 0) C) (nI N) = _
      simp (disch := omega) only [Option.bind_some, Option.map_some, Option.bind_none, q_lit, nI_add, pk_mul, q_sub, q_addn, q_cl, q_le, q_lt, q_eq, q_ck, q_cd, q_cb0, q_cb1, q_div, q_rem, q_shl1, q_shr, q_and, q_or, q_tb, if_pos, if_neg, if_true, if_false, not_true, not_false_iff, eq_self, Bool.true_eq_false, Bool.false_eq_true, q_bI0, q_bI1, q_cbI, Nat.or_zero, mst_row, mrow_neA, mrow_neB, mrow_self, q_upd, f_X11_noticesCome_L2, q_worlds h', Nat.le_refl]
  obtain ⟨_, e, C, rfl, hC⟩ := hh
  exact ⟨C, e, hC⟩
end REFB
