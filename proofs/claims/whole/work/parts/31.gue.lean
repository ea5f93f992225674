-- the best guess
def gsN (f : Nat → Nat) : Nat → Nat
  | 0 => 0
  | k + 1 => if f (gsN f k) < f (k + 1) then k + 1 else gsN f k
theorem gsN_le (f : Nat → Nat) (k : Nat) : gsN f k ≤ k := by
  induction k with
  | zero => exact Nat.le_refl 0
  | succ k ih => rw [gsN]; split <;> omega
def vtK (r : Nat → Int32) (V n p c i m : Nat) : Nat := cnt m (fun u => lf r u && decide (c * lab r p u + fig V n p u = i))
def vts (r : Nat → Int32) (V n N p g v : Nat) : Nat := cnt N (fun u => lf r u && (decide (lab r p u = g) && decide (fig V n p u = v)))
theorem vtK_eq {r : Nat → Int32} {V n N p g v c : Nat} (hV : 2 ≤ V) (hc : V ≤ c) (hv : v < V) : vtK r V n p c (c * g + v) N = vts r V n N p g v := by
  refine cnt_congr (fun u hu => ?_)
  have hf := fig_lt hV n p u
  have e : (c * lab r p u + fig V n p u = c * g + v) ↔ (lab r p u = g ∧ fig V n p u = v) := by
    constructor
    · intro e
      have h1 : (c * lab r p u + fig V n p u) / c = lab r p u := by
        rw [Nat.mul_add_div (by omega), Nat.div_eq_of_lt (by omega), Nat.add_zero]
      have h2 : (c * g + v) / c = g := by
        rw [Nat.mul_add_div (by omega), Nat.div_eq_of_lt (by omega), Nat.add_zero]
      have h3 : lab r p u = g := by rw [← h1, e, h2]
      rw [h3] at e
      exact ⟨h3, by omega⟩
    · rintro ⟨h1, h2⟩
      rw [h1, h2]
  simp [e]
def gue (r : Nat → Int32) (V n N p w : Nat) : Nat := gsN (fun v => vts r V n N p (lab r p w) v) (V - 1)
theorem gue_lt {r : Nat → Int32} {V n N p w : Nat} (hV : 2 ≤ V) : gue r V n N p w < V := by
  have := gsN_le (fun v => vts r V n N p (lab r p w) v) (V - 1)
  unfold gue
  omega
theorem vts_le (r : Nat → Int32) (V n N p g v : Nat) : vts r V n N p g v ≤ N := cnt_le _ _
def rgt (r : Nat → Int32) (V n N : Nat) (P : Nat → Bool) (m w : Nat) : Bool := lf r w && !anyN m (fun p => P p && !decide (gue r V n N p w = fig V n p w))
section GUEQ
variable {μ : Mm} {V n N w0 : Nat} {r : Nat → Int32}
theorem q_laysVotes (h : RS μ V n N w0 r) {p : Nat} (hp : p < n) : ∃ R, f_X11_laysVotes μ (nI p) = some (mrow μ (32, 0) R) ∧ ∀ g v, g < N → v < V → R (4 * g + v) = nI (vts r V n N p g v) := by
  have hb := h.2.b
  have hh : ∃ x, f_X11_laysVotes μ (nI p) = some x ∧ ∃ R, x = mrow μ (32, 0) R ∧ ∀ i, i < 2048 → R i = nI (vtK r V n p 4 i N) := by
    unfold f_X11_laysVotes
    refine Wh_inv1 2048 (fun k s => ∃ R, s = (mrow μ (32, 0) R, nI k) ∧ ∀ i, i < k → R i = nI 0) _ ⟨μ (32, 0), by rw [mrow_id]; rfl, fun i hi => by omega⟩ ?_ ?_
    · rintro k _ hk ⟨R, rfl, hR⟩
      refine ⟨(mrow μ (32, 0) (upd R k (nI 0)), nI (k + 1)), ?_, _, rfl, ?_⟩
      · show f_X11_laysVotes_L2 (nI p) (mrow μ (32, 0) R) (nI k) = _
        simp (disch := omega) only [Option.bind_some, Option.map_some, Option.bind_none, q_lit, nI_add, pk_mul, q_sub, q_addn, q_cl, q_le, q_lt, q_eq, q_ck, q_cd, q_cb0, q_cb1, q_div, q_rem, q_shl1, q_shr, q_and, q_or, q_tb, if_pos, if_neg, if_true, if_false, not_true, not_false_iff, eq_self, Bool.true_eq_false, Bool.false_eq_true, q_bI0, q_bI1, q_cbI, Nat.or_zero, mst_row, mrow_neA, mrow_neB, mrow_self, q_upd, f_X11_laysVotes_L2, mrow_mrow]
      · intro i hi
        rw [q_upd]
        split
        · rfl
        · exact hR i (by omega)
    · rintro _ ⟨R, rfl, hR⟩
      have e : f_X11_laysVotes_L2 (nI p) (mrow μ (32, 0) R) (nI 2048) = (Wh (fun z : Mm × Int32 => f_X11_laysVotes_L26 (nI p) z.1 z.2) (mrow μ (32, 0) R, nI 0)).map Sum.inr := by
        simp (disch := omega) only [Option.bind_some, Option.map_some, Option.bind_none, q_lit, nI_add, pk_mul, q_sub, q_addn, q_cl, q_le, q_lt, q_eq, q_ck, q_cd, q_cb0, q_cb1, q_div, q_rem, q_shl1, q_shr, q_and, q_or, q_tb, if_pos, if_neg, if_true, if_false, not_true, not_false_iff, eq_self, Bool.true_eq_false, Bool.false_eq_true, q_bI0, q_bI1, q_cbI, Nat.or_zero, mst_row, mrow_neA, mrow_neB, mrow_self, q_upd, f_X11_laysVotes_L2]
      have hh : ∃ μ', Wh (fun z : Mm × Int32 => f_X11_laysVotes_L26 (nI p) z.1 z.2) (mrow μ (32, 0) R, nI 0) = some μ' ∧ ∃ R, μ' = mrow μ (32, 0) R ∧ ∀ i, i < 2048 → R i = nI (vtK r V n p 4 i N) := by
        refine Wh_inv1 N (fun k s => ∃ R, s = (mrow μ (32, 0) R, nI k) ∧ ∀ i, i < 2048 → R i = nI (vtK r V n p 4 i k)) _ ⟨R, rfl, hR⟩ ?_ ?_
        · rintro k _ hk ⟨R, rfl, hR⟩
          have h' := h.row (a := 32) (b := 0) R (by omega)
          have hl := (h.2.hb hp hk).2
          have hf := fig_lt hb.1 n p k
          have hRl := hR (4 * lab r p k + fig V n p k) (by omega)
          have hcl := cnt_le k (fun u => lf r u && decide (4 * lab r p u + fig V n p u = 4 * lab r p k + fig V n p k))
          have es : ∀ i, vtK r V n p 4 i (k + 1) = vtK r V n p 4 i k + (if (lf r k && decide (4 * lab r p k + fig V n p k = i)) = true then 1 else 0) := fun i => rfl
          by_cases hL : lf r k = true
          · refine ⟨(mrow μ (32, 0) (upd R (4 * lab r p k + fig V n p k) (nI (vtK r V n p 4 (4 * lab r p k + fig V n p k) k + 1))), nI (k + 1)), ?_, _, rfl, ?_⟩
            · show f_X11_laysVotes_L26 (nI p) (mrow μ (32, 0) R) (nI k) = _
              simp (disch := omega) only [Option.bind_some, Option.map_some, Option.bind_none, q_lit, nI_add, pk_mul, q_sub, q_addn, q_cl, q_le, q_lt, q_eq, q_ck, q_cd, q_cb0, q_cb1, q_div, q_rem, q_shl1, q_shr, q_and, q_or, q_tb, if_pos, if_neg, if_true, if_false, not_true, not_false_iff, eq_self, Bool.true_eq_false, Bool.false_eq_true, q_bI0, q_bI1, q_cbI, Nat.or_zero, mst_row, mrow_neA, mrow_neB, mrow_self, q_upd, f_X11_laysVotes_L26, q_worlds h', q_isLeft h' hk, hL, q_label h' hp hk, q_noticeIn h' hp hk, mrow_mrow, hRl]
            · intro i hi
              rw [q_upd, es]
              by_cases e : i = 4 * lab r p k + fig V n p k
              · subst e; simp [hL]
              · simp [e, Ne.symm e, hR i hi]
          · have hL := Bool.not_eq_true _ ▸ hL
            refine ⟨(mrow μ (32, 0) R, nI (k + 1)), ?_, _, rfl, ?_⟩
            · show f_X11_laysVotes_L26 (nI p) (mrow μ (32, 0) R) (nI k) = _
              simp (disch := omega) only [Option.bind_some, Option.map_some, Option.bind_none, q_lit, nI_add, pk_mul, q_sub, q_addn, q_cl, q_le, q_lt, q_eq, q_ck, q_cd, q_cb0, q_cb1, q_div, q_rem, q_shl1, q_shr, q_and, q_or, q_tb, if_pos, if_neg, if_true, if_false, not_true, not_false_iff, eq_self, Bool.true_eq_false, Bool.false_eq_true, q_bI0, q_bI1, q_cbI, Nat.or_zero, mst_row, mrow_neA, mrow_neB, mrow_self, q_upd, f_X11_laysVotes_L26, q_worlds h', q_isLeft h' hk, hL]
            · intro i hi
              rw [es, hR i hi]
              simp [hL]
        · rintro _ ⟨R, rfl, hR⟩
          have h' := h.row (a := 32) (b := 0) R (by omega)
          refine ⟨_, ?_, R, rfl, hR⟩
          show f_X11_laysVotes_L26 (nI p) (mrow μ (32, 0) R) (nI N) = _
          simp (disch := omega) only [Option.bind_some, Option.map_some, Option.bind_none, q_lit, nI_add, pk_mul, q_sub, q_addn, q_cl, q_le, q_lt, q_eq, q_ck, q_cd, q_cb0, q_cb1, q_div, q_rem, q_shl1, q_shr, q_and, q_or, q_tb, if_pos, if_neg, if_true, if_false, not_true, not_false_iff, eq_self, Bool.true_eq_false, Bool.false_eq_true, q_bI0, q_bI1, q_cbI, Nat.or_zero, mst_row, mrow_neA, mrow_neB, mrow_self, q_upd, f_X11_laysVotes_L26, q_worlds h', Nat.le_refl]
      obtain ⟨μ', h1, h2⟩ := hh
      exact ⟨μ', by show f_X11_laysVotes_L2 (nI p) (mrow μ (32, 0) R) (nI 2048) = _; rw [e, h1]; rfl, h2⟩
  obtain ⟨_, e, R, rfl, hR⟩ := hh
  exact ⟨R, e, fun g v hg hv => by rw [hR _ (by omega), vtK_eq hb.1 (by omega) hv]⟩
theorem q_guessOf (h : RS μ V n N w0 r) {p w : Nat} (hp : p < n) (hw : w < N) (hR : ∀ g v, g < N → v < V → μ (32, 0) (4 * g + v) = nI (vts r V n N p g v)) : f_X11_guessOf μ (nI p) (nI w) = some (nI (gue r V n N p w)) := by
  have hb := h.2.b
  have hl := (h.2.hb hp hw).2
  have e0 : (4 : Int32) * nI (lab r p w) = nI (4 * lab r p w) := by simp (disch := omega) only [Option.bind_some, Option.map_some, Option.bind_none, q_lit, nI_add, pk_mul, q_sub, q_addn, q_cl, q_le, q_lt, q_eq, q_ck, q_cd, q_cb0, q_cb1, q_div, q_rem, q_shl1, q_shr, q_and, q_or, q_tb, if_pos, if_neg, if_true, if_false, not_true, not_false_iff, eq_self, Bool.true_eq_false, Bool.false_eq_true, q_bI0, q_bI1, q_cbI, Nat.or_zero, mst_row, mrow_neA, mrow_neB, mrow_self, q_upd, ]
  rw [f_X11_guessOf, q_label h hp hw, Option.bind_some, e0]
  refine Wh_it (V - 1) (fun k => (nI (gsN (fun v => vts r V n N p (lab r p w) v) k), nI (k + 1))) rfl (fun k hk => ?_) ?_
  · show f_X11_guessOf_L15 (nI (4 * lab r p w)) μ (nI (gsN (fun v => vts r V n N p (lab r p w) v) k)) (nI (k + 1)) = some (.inl (nI (gsN (fun v => vts r V n N p (lab r p w) v) (k + 1)), nI (k + 1 + 1)))
    have hg := gsN_le (fun v => vts r V n N p (lab r p w) v) k
    have e1 := hR (lab r p w) (k + 1) hl (by omega)
    have e2 := hR (lab r p w) (gsN (fun v => vts r V n N p (lab r p w) v) k) hl (by omega)
    have b1 := vts_le r V n N p (lab r p w) (k + 1)
    have b2 := vts_le r V n N p (lab r p w) (gsN (fun v => vts r V n N p (lab r p w) v) k)
    have es : gsN (fun v => vts r V n N p (lab r p w) v) (k + 1) = if vts r V n N p (lab r p w) (gsN (fun v => vts r V n N p (lab r p w) v) k) < vts r V n N p (lab r p w) (k + 1) then k + 1 else gsN (fun v => vts r V n N p (lab r p w) v) k := rfl
    rw [es]
    by_cases c : vts r V n N p (lab r p w) (gsN (fun v => vts r V n N p (lab r p w) v) k) < vts r V n N p (lab r p w) (k + 1)
    · rw [if_pos c]
      simp (disch := omega) only [Option.bind_some, Option.map_some, Option.bind_none, q_lit, nI_add, pk_mul, q_sub, q_addn, q_cl, q_le, q_lt, q_eq, q_ck, q_cd, q_cb0, q_cb1, q_div, q_rem, q_shl1, q_shr, q_and, q_or, q_tb, if_pos, if_neg, if_true, if_false, not_true, not_false_iff, eq_self, Bool.true_eq_false, Bool.false_eq_true, q_bI0, q_bI1, q_cbI, Nat.or_zero, mst_row, mrow_neA, mrow_neB, mrow_self, q_upd, f_X11_guessOf_L15, q_values h, e1, e2]
    · rw [if_neg c]
      simp (disch := omega) only [Option.bind_some, Option.map_some, Option.bind_none, q_lit, nI_add, pk_mul, q_sub, q_addn, q_cl, q_le, q_lt, q_eq, q_ck, q_cd, q_cb0, q_cb1, q_div, q_rem, q_shl1, q_shr, q_and, q_or, q_tb, if_pos, if_neg, if_true, if_false, not_true, not_false_iff, eq_self, Bool.true_eq_false, Bool.false_eq_true, q_bI0, q_bI1, q_cbI, Nat.or_zero, mst_row, mrow_neA, mrow_neB, mrow_self, q_upd, f_X11_guessOf_L15, q_values h, e1, e2]
  · show f_X11_guessOf_L15 (nI (4 * lab r p w)) μ (nI (gsN (fun v => vts r V n N p (lab r p w) v) (V - 1))) (nI (V - 1 + 1)) = _
    rw [show V - 1 + 1 = V by omega]
    simp (disch := omega) only [Option.bind_some, Option.map_some, Option.bind_none, q_lit, nI_add, pk_mul, q_sub, q_addn, q_cl, q_le, q_lt, q_eq, q_ck, q_cd, q_cb0, q_cb1, q_div, q_rem, q_shl1, q_shr, q_and, q_or, q_tb, if_pos, if_neg, if_true, if_false, not_true, not_false_iff, eq_self, Bool.true_eq_false, Bool.false_eq_true, q_bI0, q_bI1, q_cbI, Nat.or_zero, mst_row, mrow_neA, mrow_neB, mrow_self, q_upd, f_X11_guessOf_L15, q_values h, Nat.le_refl]
    rfl
theorem q_right (h : RS μ V n N w0 r) {v : Int32} {P : Nat → Bool} (hv : (v = -nI 1 ∧ P = fun _ => true) ∨ (∃ p0, p0 < n ∧ v = nI p0 ∧ P = fun p => decide (p = p0))) :
    ∃ μ', Wh (fun z : Mm × Int32 => f_X11_right_L35 v z.1 z.2) (μ, nI 0) = some (nI (cnt N (rgt r V n N P n)), μ') ∧ Fr [25, 32] μ μ' := by
  have hb := h.2.b
  have hh : ∃ x, Wh (fun z : Mm × Int32 => f_X11_right_L35 v z.1 z.2) (μ, nI 0) = some x ∧ ∃ μ', x = (nI (cnt N (rgt r V n N P n)), μ') ∧ Fr [25, 32] μ μ' := by
    refine Wh_inv1 N (fun k s => ∃ C, s = (mrow μ (25, 0) C, nI k) ∧ ∀ w, w < k → C w = bI (lf r w)) _ ⟨μ (25, 0), by rw [mrow_id], fun i hi => by omega⟩ ?_ ?_
    · rintro k _ hk ⟨C, rfl, hC⟩
      have h' := h.row (a := 25) (b := 0) C (by omega)
      refine ⟨(mrow μ (25, 0) (upd C k (bI (lf r k))), nI (k + 1)), ?_, _, rfl, fun w hw => ?_⟩
      · show f_X11_right_L35 v (mrow μ (25, 0) C) (nI k) = _
        simp (disch := omega) only [Option.bind_some, Option.map_some, Option.bind_none, q_lit, nI_add, pk_mul, q_sub, q_addn, q_cl, q_le, q_lt, q_eq, q_ck, q_cd, q_cb0, q_cb1, q_div, q_rem, q_shl1, q_shr, q_and, q_or, q_tb, if_pos, if_neg, if_true, if_false, not_true, not_false_iff, eq_self, Bool.true_eq_false, Bool.false_eq_true, q_bI0, q_bI1, q_cbI, Nat.or_zero, mst_row, mrow_neA, mrow_neB, mrow_self, q_upd, f_X11_right_L35, q_worlds h', q_isLeft h' hk, nar_b, mrow_mrow]
      · rw [q_upd]
        by_cases e : w = k
        · subst e; rw [if_pos rfl]
        · rw [if_neg e]; exact hC w (by omega)
    · rintro _ ⟨C, rfl, hC⟩
      have h0 := h.row (a := 25) (b := 0) C (by omega)
      have e : f_X11_right_L35 v (mrow μ (25, 0) C) (nI N) = (Wh (fun z : Mm × Int32 => f_X11_right_L62 v z.1 z.2) (mrow μ (25, 0) C, nI 0)).map Sum.inr := by
        simp (disch := omega) only [Option.bind_some, Option.map_some, Option.bind_none, q_lit, nI_add, pk_mul, q_sub, q_addn, q_cl, q_le, q_lt, q_eq, q_ck, q_cd, q_cb0, q_cb1, q_div, q_rem, q_shl1, q_shr, q_and, q_or, q_tb, if_pos, if_neg, if_true, if_false, not_true, not_false_iff, eq_self, Bool.true_eq_false, Bool.false_eq_true, q_bI0, q_bI1, q_cbI, Nat.or_zero, mst_row, mrow_neA, mrow_neB, mrow_self, q_upd, f_X11_right_L35, q_worlds h0, Nat.le_refl]
      have hh : ∃ x, Wh (fun z : Mm × Int32 => f_X11_right_L62 v z.1 z.2) (mrow μ (25, 0) C, nI 0) = some x ∧ ∃ μ', x = (nI (cnt N (rgt r V n N P n)), μ') ∧ Fr [25, 32] μ μ' := by
        refine Wh_inv1 n (fun k s => ∃ a, s = (a, nI k) ∧ RS a V n N w0 r ∧ Fr [25, 32] μ a ∧ ∀ w, w < N → a (25, 0) w = bI (rgt r V n N P k w)) _ ⟨_, rfl, h0, (by repeat first | exact Fr.rf | refine Fr.mr ?_ (by decide)), fun w hw => by rw [mrow_self, hC w hw]; simp [rgt, anyN]⟩ ?_ ?_
        · rintro k _ hk ⟨a, rfl, ha, hF, hC⟩
          have hPk : (P k = true ∧ (v = -nI 1 ∨ ¬ v = -nI 1 ∧ nI k = v)) ∨ (P k = false ∧ ¬ v = -nI 1 ∧ ¬ nI k = v) := by
            rcases hv with ⟨rfl, rfl⟩ | ⟨p0, hp0, rfl, rfl⟩
            · exact Or.inl ⟨rfl, Or.inl rfl⟩
            · have h3 : ∀ k, k < 9 → ¬ nI k = -nI 1 := by decide +kernel
              by_cases c : k = p0
              · subst c; exact Or.inl ⟨by simp, Or.inr ⟨h3 k (by omega), rfl⟩⟩
              · exact Or.inr ⟨by simp [c], h3 p0 (by omega), by rw [q_eq (by omega) (by omega)]; exact c⟩
          have es : ∀ w, rgt r V n N P (k + 1) w = (rgt r V n N P k w && !(P k && !decide (gue r V n N k w = fig V n k w))) := fun w => by
            unfold rgt
            rw [anyN, Bool.not_or, Bool.and_assoc]
          rcases hPk with ⟨hP, hv2⟩ | ⟨hP, hv1, hv2⟩
          · obtain ⟨R, e1, hR⟩ := q_laysVotes ha hk
            have ha' := ha.row (a := 32) (b := 0) R (by omega)
            have hin : ∃ x, Wh (fun z : Mm × Int32 => f_X11_right_L90 v (nI k) z.1 z.2) (mrow a (32, 0) R, nI 0) = some x ∧ ∃ C, x = .inl (mrow (mrow a (32, 0) R) (25, 0) C, nI (k + 1)) ∧ ∀ w, w < N → C w = bI (rgt r V n N P (k + 1) w) := by
              refine Wh_inv1 N (fun i s => ∃ C, s = (mrow (mrow a (32, 0) R) (25, 0) C, nI i) ∧ ∀ w, w < N → C w = bI (if w < i then rgt r V n N P (k + 1) w else rgt r V n N P k w)) _ ⟨a (25, 0), ?_, fun w hw => by rw [if_neg (by omega)]; exact hC w hw⟩ ?_ ?_
              · have : a (25, 0) = (mrow a (32, 0) R) (25, 0) := by rw [mrow_neA (by omega)]
                rw [this, mrow_id]
              · rintro i _ hi ⟨C, rfl, hC⟩
                have h2 := ha'.row (a := 25) (b := 0) C (by omega)
                have eg : f_X11_guessOf (mrow (mrow a (32, 0) R) (25, 0) C) (nI k) (nI i) = some (nI (gue r V n N k i)) := q_guessOf h2 hk hi (fun g v hg hv => by rw [mrow_neA (by omega), mrow_self]; exact hR g v hg hv)
                have g1 := gue_lt (r := r) (n := n) (N := N) (p := k) (w := i) hb.1
                have g2 := fig_lt hb.1 n k i
                have hCi := hC i hi
                rw [if_neg (Nat.lt_irrefl i)] at hCi
                have hes := es i
                rw [hP, Bool.true_and, Bool.not_not] at hes
                have fin : ∀ b : Bool, f_X11_right_L90 v (nI k) (mrow (mrow a (32, 0) R) (25, 0) C) (nI i) = some (.inl (mrow (mrow a (32, 0) R) (25, 0) (upd C i (bI b)), nI (i + 1))) → b = rgt r V n N P (k + 1) i → ∃ s', (fun z : Mm × Int32 => f_X11_right_L90 v (nI k) z.1 z.2) (mrow (mrow a (32, 0) R) (25, 0) C, nI i) = some (.inl s') ∧ ∃ C, s' = (mrow (mrow a (32, 0) R) (25, 0) C, nI (i + 1)) ∧ ∀ w, w < N → C w = bI (if w < i + 1 then rgt r V n N P (k + 1) w else rgt r V n N P k w) := by
                  intro b e1 e2
                  refine ⟨_, e1, _, rfl, fun w hw => ?_⟩
                  rw [q_upd]
                  by_cases e : w = i
                  · subst e; rw [if_pos rfl, if_pos (by omega), e2]
                  · rw [if_neg e, hC w hw]
                    by_cases c : w < i
                    · rw [if_pos c, if_pos (by omega)]
                    · rw [if_neg c, if_neg (by omega)]
                cases hc : rgt r V n N P k i
                · rw [hc] at hCi hes
                  refine fin false ?_ (by rw [hes]; rfl)
                  simp (disch := omega) only [Option.bind_some, Option.map_some, Option.bind_none, q_lit, nI_add, pk_mul, q_sub, q_addn, q_cl, q_le, q_lt, q_eq, q_ck, q_cd, q_cb0, q_cb1, q_div, q_rem, q_shl1, q_shr, q_and, q_or, q_tb, if_pos, if_neg, if_true, if_false, not_true, not_false_iff, eq_self, Bool.true_eq_false, Bool.false_eq_true, q_bI0, q_bI1, q_cbI, Nat.or_zero, mst_row, mrow_neA, mrow_neB, mrow_self, q_upd, f_X11_right_L90, q_worlds h2, hCi, nar_0, mrow_mrow, bI_f]
                · rw [hc] at hCi hes
                  by_cases c2 : gue r V n N k i = fig V n k i
                  · refine fin true ?_ (by rw [hes, decide_eq_true c2]; rfl)
                    simp (disch := omega) only [Option.bind_some, Option.map_some, Option.bind_none, q_lit, nI_add, pk_mul, q_sub, q_addn, q_cl, q_le, q_lt, q_eq, q_ck, q_cd, q_cb0, q_cb1, q_div, q_rem, q_shl1, q_shr, q_and, q_or, q_tb, if_pos, if_neg, if_true, if_false, not_true, not_false_iff, eq_self, Bool.true_eq_false, Bool.false_eq_true, q_bI0, q_bI1, q_cbI, Nat.or_zero, mst_row, mrow_neA, mrow_neB, mrow_self, q_upd, f_X11_right_L90, q_worlds h2, hCi, nar_1, mrow_mrow, bI_t, eg, q_noticeIn h2 hk hi, c2]
                  · refine fin false ?_ (by rw [hes, decide_eq_false c2]; rfl)
                    simp (disch := omega) only [Option.bind_some, Option.map_some, Option.bind_none, q_lit, nI_add, pk_mul, q_sub, q_addn, q_cl, q_le, q_lt, q_eq, q_ck, q_cd, q_cb0, q_cb1, q_div, q_rem, q_shl1, q_shr, q_and, q_or, q_tb, if_pos, if_neg, if_true, if_false, not_true, not_false_iff, eq_self, Bool.true_eq_false, Bool.false_eq_true, q_bI0, q_bI1, q_cbI, Nat.or_zero, mst_row, mrow_neA, mrow_neB, mrow_self, q_upd, f_X11_right_L90, q_worlds h2, hCi, nar_0, mrow_mrow, bI_f, bI_t, eg, q_noticeIn h2 hk hi, c2]
              · rintro _ ⟨C, rfl, hC⟩
                have h2 := ha'.row (a := 25) (b := 0) C (by omega)
                refine ⟨_, ?_, C, rfl, fun w hw => by rw [hC w hw, if_pos hw]⟩
                show f_X11_right_L90 v (nI k) (mrow (mrow a (32, 0) R) (25, 0) C) (nI N) = _
                simp (disch := omega) only [Option.bind_some, Option.map_some, Option.bind_none, q_lit, nI_add, pk_mul, q_sub, q_addn, q_cl, q_le, q_lt, q_eq, q_ck, q_cd, q_cb0, q_cb1, q_div, q_rem, q_shl1, q_shr, q_and, q_or, q_tb, if_pos, if_neg, if_true, if_false, not_true, not_false_iff, eq_self, Bool.true_eq_false, Bool.false_eq_true, q_bI0, q_bI1, q_cbI, Nat.or_zero, mst_row, mrow_neA, mrow_neB, mrow_self, q_upd, f_X11_right_L90, q_worlds h2, Nat.le_refl]
            obtain ⟨_, e2, C2, rfl, hC2⟩ := hin
            refine ⟨(mrow (mrow a (32, 0) R) (25, 0) C2, nI (k + 1)), ?_, _, rfl, ha'.row _ (by omega), (hF.mr (by decide)).mr (by decide), fun w hw => by rw [mrow_self]; exact hC2 w hw⟩
            show f_X11_right_L62 v a (nI k) = _
            rcases hv2 with hv2 | ⟨hv2, hv3⟩
            · simp (disch := omega) only [Option.bind_some, Option.map_some, Option.bind_none, q_lit, nI_add, pk_mul, q_sub, q_addn, q_cl, q_le, q_lt, q_eq, q_ck, q_cd, q_cb0, q_cb1, q_div, q_rem, q_shl1, q_shr, q_and, q_or, q_tb, if_pos, if_neg, if_true, if_false, not_true, not_false_iff, eq_self, Bool.true_eq_false, Bool.false_eq_true, q_bI0, q_bI1, q_cbI, Nat.or_zero, mst_row, mrow_neA, mrow_neB, mrow_self, q_upd, f_X11_right_L62, f_X11_right_J83, q_people ha, hv2, e1, e2]
              rw [← hv2, e2]
            · simp (disch := omega) only [Option.bind_some, Option.map_some, Option.bind_none, q_lit, nI_add, pk_mul, q_sub, q_addn, q_cl, q_le, q_lt, q_eq, q_ck, q_cd, q_cb0, q_cb1, q_div, q_rem, q_shl1, q_shr, q_and, q_or, q_tb, if_pos, if_neg, if_true, if_false, not_true, not_false_iff, eq_self, Bool.true_eq_false, Bool.false_eq_true, q_bI0, q_bI1, q_cbI, Nat.or_zero, mst_row, mrow_neA, mrow_neB, mrow_self, q_upd, f_X11_right_L62, f_X11_right_J83, q_people ha, if_neg hv2, if_pos hv3, e1, e2]
          · refine ⟨(a, nI (k + 1)), ?_, a, rfl, ha, hF, fun w hw => by rw [hC w hw, es, hP]; simp⟩
            show f_X11_right_L62 v a (nI k) = _
            simp (disch := omega) only [Option.bind_some, Option.map_some, Option.bind_none, q_lit, nI_add, pk_mul, q_sub, q_addn, q_cl, q_le, q_lt, q_eq, q_ck, q_cd, q_cb0, q_cb1, q_div, q_rem, q_shl1, q_shr, q_and, q_or, q_tb, if_pos, if_neg, if_true, if_false, not_true, not_false_iff, eq_self, Bool.true_eq_false, Bool.false_eq_true, q_bI0, q_bI1, q_cbI, Nat.or_zero, mst_row, mrow_neA, mrow_neB, mrow_self, q_upd, f_X11_right_L62, q_people ha, if_neg hv1, if_neg hv2]
        · rintro _ ⟨a, rfl, ha, hF, hC⟩
          have e2 : Wh (fun z : Int32 × Int32 => f_X11_right_L149 a z.1 z.2) (nI 0, nI 0) = some (nI (cnt N (rgt r V n N P n)), a) := by
            refine Wh_it N (fun k => (nI (cnt k (rgt r V n N P n)), nI k)) rfl (fun k hk => ?_) ?_
            · show f_X11_right_L149 a (nI (cnt k (rgt r V n N P n))) (nI k) = some (.inl (nI (cnt (k + 1) (rgt r V n N P n)), nI (k + 1)))
              have hCk := hC k hk
              rw [cnt_s]
              by_cases c : rgt r V n N P n k = true
              · rw [c] at hCk
                simp (disch := omega) only [Option.bind_some, Option.map_some, Option.bind_none, q_lit, nI_add, pk_mul, q_sub, q_addn, q_cl, q_le, q_lt, q_eq, q_ck, q_cd, q_cb0, q_cb1, q_div, q_rem, q_shl1, q_shr, q_and, q_or, q_tb, if_pos, if_neg, if_true, if_false, not_true, not_false_iff, eq_self, Bool.true_eq_false, Bool.false_eq_true, q_bI0, q_bI1, q_cbI, Nat.or_zero, mst_row, mrow_neA, mrow_neB, mrow_self, q_upd, f_X11_right_L149, q_worlds ha, hCk, c, bI_t]
              · have c := Bool.not_eq_true _ ▸ c
                rw [c] at hCk
                simp (disch := omega) only [Option.bind_some, Option.map_some, Option.bind_none, q_lit, nI_add, pk_mul, q_sub, q_addn, q_cl, q_le, q_lt, q_eq, q_ck, q_cd, q_cb0, q_cb1, q_div, q_rem, q_shl1, q_shr, q_and, q_or, q_tb, if_pos, if_neg, if_true, if_false, not_true, not_false_iff, eq_self, Bool.true_eq_false, Bool.false_eq_true, q_bI0, q_bI1, q_cbI, Nat.or_zero, mst_row, mrow_neA, mrow_neB, mrow_self, q_upd, f_X11_right_L149, q_worlds ha, hCk, c, bI_f]
            · show f_X11_right_L149 a (nI (cnt N (rgt r V n N P n))) (nI N) = _
              simp (disch := omega) only [Option.bind_some, Option.map_some, Option.bind_none, q_lit, nI_add, pk_mul, q_sub, q_addn, q_cl, q_le, q_lt, q_eq, q_ck, q_cd, q_cb0, q_cb1, q_div, q_rem, q_shl1, q_shr, q_and, q_or, q_tb, if_pos, if_neg, if_true, if_false, not_true, not_false_iff, eq_self, Bool.true_eq_false, Bool.false_eq_true, q_bI0, q_bI1, q_cbI, Nat.or_zero, mst_row, mrow_neA, mrow_neB, mrow_self, q_upd, f_X11_right_L149, q_worlds ha, Nat.le_refl]
          refine ⟨(nI (cnt N (rgt r V n N P n)), a), ?_, a, rfl, hF⟩
          show f_X11_right_L62 v a (nI n) = _
          simp (disch := omega) only [Option.bind_some, Option.map_some, Option.bind_none, q_lit, nI_add, pk_mul, q_sub, q_addn, q_cl, q_le, q_lt, q_eq, q_ck, q_cd, q_cb0, q_cb1, q_div, q_rem, q_shl1, q_shr, q_and, q_or, q_tb, if_pos, if_neg, if_true, if_false, not_true, not_false_iff, eq_self, Bool.true_eq_false, Bool.false_eq_true, q_bI0, q_bI1, q_cbI, Nat.or_zero, mst_row, mrow_neA, mrow_neB, mrow_self, q_upd, f_X11_right_L62, q_people ha, Nat.le_refl, e2]
      obtain ⟨x, h1, h2⟩ := hh
      exact ⟨x, by show f_X11_right_L35 v (mrow μ (25, 0) C) (nI N) = _; rw [e, h1]; rfl, h2⟩
  obtain ⟨_, e, a, rfl, hF⟩ := hh
  exact ⟨a, e, hF⟩
end GUEQ
section GUEK
variable {sh : Sh} {ln : Nat → Nat} {μ : Mm} {j V n N w0 : Nat} {r : Nat → Int32}
theorem k_tally (h : CS ln μ j V n N w0 r) (hL : LN ln) {p : Nat} (hp : p < n) : ∃ R, f_X4_tally sh ln j μ (nI p) = some (mrow μ (12, 1) R) ∧ ∀ g v, g < N → v < V → R (8 * g + v) = nI (vts r V n N p g v) := by
  have hb := h.1.b
  have hl1 : ln 1 = 4096 := hL.2.1
  have e0 : nI N * (8 : Int32) = nI (N * 8) := by simp (disch := omega) only [Option.bind_some, Option.map_some, Option.bind_none, q_lit, nI_add, pk_mul, q_sub, q_addn, q_cl, q_le, q_lt, q_eq, q_ck, q_cd, q_cb0, q_cb1, q_div, q_rem, q_shl1, q_shr, q_and, q_or, q_tb, if_pos, if_neg, if_true, if_false, not_true, not_false_iff, eq_self, Bool.true_eq_false, Bool.false_eq_true, q_bI0, q_bI1, q_cbI, Nat.or_zero, mst_row, mrow_neA, mrow_neB, mrow_self, q_upd, ]
  have hh : ∃ x, f_X4_tally sh ln j μ (nI p) = some x ∧ ∃ R, x = mrow μ (12, 1) R ∧ ∀ i, i < N * 8 → R i = nI (vtK r V n p 8 i N) := by
    rw [f_X4_tally, h.c2, e0, show (0 : Int32) = nI 0 from rfl, k_fill (by omega) (by omega), Option.bind_some]
    refine Wh_inv1 N (fun k s => ∃ R, s = (mrow μ (12, 1) R, nI k) ∧ ∀ i, i < N * 8 → R i = nI (vtK r V n p 8 i k)) _ ⟨_, rfl, fun i hi => by rw [if_pos hi]; rfl⟩ ?_ ?_
    · rintro k _ hk ⟨R, rfl, hR⟩
      have h' := h.rowS (a := 12) (b := 1) R (by omega) (by omega)
      have hl := (h.1.hb hp hk).2
      have hf := fig_lt hb.1 n p k
      have hRl := hR (8 * lab r p k + fig V n p k) (by omega)
      have ekey : lab r p k * 8 + fig V n p k = 8 * lab r p k + fig V n p k := by omega
      have es : ∀ i, vtK r V n p 8 i (k + 1) = vtK r V n p 8 i k + (if (lf r k && decide (8 * lab r p k + fig V n p k = i)) = true then 1 else 0) := fun i => rfl
      by_cases hLf : lf r k = true
      · refine ⟨(mrow μ (12, 1) (upd R (8 * lab r p k + fig V n p k) (nI (vtK r V n p 8 (8 * lab r p k + fig V n p k) k + 1))), nI (k + 1)), ?_, _, rfl, ?_⟩
        · show f_X4_tally_L17 sh ln j (nI p) (mrow μ (12, 1) R) (nI k) = _
          have e1 : f_X1_at sh ln 1 (mrow μ (12, 1) R) (nI (8 * lab r p k + fig V n p k)) = some (nI (vtK r V n p 8 (8 * lab r p k + fig V n p k) k)) := by rw [k_at (by omega) (by omega), mrow_self, hRl]
          have e2 : f_X1_put sh ln 1 (mrow μ (12, 1) R) (nI (8 * lab r p k + fig V n p k)) (nI (vtK r V n p 8 (8 * lab r p k + fig V n p k) k + 1)) = some (mrow μ (12, 1) (upd R (8 * lab r p k + fig V n p k) (nI (vtK r V n p 8 (8 * lab r p k + fig V n p k) k + 1)))) := by rw [k_put (by omega) (by omega), mrow_self, mrow_mrow]
          simp (disch := omega) only [Option.bind_some, Option.map_some, Option.bind_none, q_lit, nI_add, pk_mul, q_sub, q_addn, q_cl, q_le, q_lt, q_eq, q_ck, q_cd, q_cb0, q_cb1, q_div, q_rem, q_shl1, q_shr, q_and, q_or, q_tb, if_pos, if_neg, if_true, if_false, not_true, not_false_iff, eq_self, Bool.true_eq_false, Bool.false_eq_true, q_bI0, q_bI1, q_cbI, Nat.or_zero, mst_row, mrow_neA, mrow_neB, mrow_self, q_upd, f_X4_tally_L17, h'.c2, k_stands h' hk, hLf, k_group h' hp hk, k_figure h' hp hk, ekey, e1, e2]
        · intro i hi
          rw [q_upd, es]
          by_cases e : i = 8 * lab r p k + fig V n p k
          · subst e; simp [hLf]
          · simp [e, Ne.symm e, hR i hi]
      · have hLf := Bool.not_eq_true _ ▸ hLf
        refine ⟨(mrow μ (12, 1) R, nI (k + 1)), ?_, _, rfl, ?_⟩
        · show f_X4_tally_L17 sh ln j (nI p) (mrow μ (12, 1) R) (nI k) = _
          simp (disch := omega) only [Option.bind_some, Option.map_some, Option.bind_none, q_lit, nI_add, pk_mul, q_sub, q_addn, q_cl, q_le, q_lt, q_eq, q_ck, q_cd, q_cb0, q_cb1, q_div, q_rem, q_shl1, q_shr, q_and, q_or, q_tb, if_pos, if_neg, if_true, if_false, not_true, not_false_iff, eq_self, Bool.true_eq_false, Bool.false_eq_true, q_bI0, q_bI1, q_cbI, Nat.or_zero, mst_row, mrow_neA, mrow_neB, mrow_self, q_upd, f_X4_tally_L17, h'.c2, k_stands h' hk, hLf]
        · intro i hi
          rw [es, hR i hi]
          simp [hLf]
    · rintro _ ⟨R, rfl, hR⟩
      have h' := h.rowS (a := 12) (b := 1) R (by omega) (by omega)
      refine ⟨_, ?_, R, rfl, hR⟩
      show f_X4_tally_L17 sh ln j (nI p) (mrow μ (12, 1) R) (nI N) = _
      simp (disch := omega) only [Option.bind_some, Option.map_some, Option.bind_none, q_lit, nI_add, pk_mul, q_sub, q_addn, q_cl, q_le, q_lt, q_eq, q_ck, q_cd, q_cb0, q_cb1, q_div, q_rem, q_shl1, q_shr, q_and, q_or, q_tb, if_pos, if_neg, if_true, if_false, not_true, not_false_iff, eq_self, Bool.true_eq_false, Bool.false_eq_true, q_bI0, q_bI1, q_cbI, Nat.or_zero, mst_row, mrow_neA, mrow_neB, mrow_self, q_upd, f_X4_tally_L17, h'.c2, Nat.le_refl]
  obtain ⟨_, e, R, rfl, hR⟩ := hh
  exact ⟨R, e, fun g v hg hv => by rw [hR _ (by omega), vtK_eq hb.1 (by omega) hv]⟩
theorem k_bestIn (h : CS ln μ j V n N w0 r) (hL : LN ln) {p w : Nat} (hp : p < n) (hw : w < N) (hR : ∀ g v, g < N → v < V → μ (12, 1) (8 * g + v) = nI (vts r V n N p g v)) : f_X4_bestIn sh ln j μ (nI p) (nI w) = some (nI (gue r V n N p w)) := by
  have hb := h.1.b
  have hl1 : ln 1 = 4096 := hL.2.1
  have hl := (h.1.hb hp hw).2
  have e0 : nI (lab r p w) * (8 : Int32) = nI (8 * lab r p w) := by
    simp (disch := omega) only [Option.bind_some, Option.map_some, Option.bind_none, q_lit, nI_add, pk_mul, q_sub, q_addn, q_cl, q_le, q_lt, q_eq, q_ck, q_cd, q_cb0, q_cb1, q_div, q_rem, q_shl1, q_shr, q_and, q_or, q_tb, if_pos, if_neg, if_true, if_false, not_true, not_false_iff, eq_self, Bool.true_eq_false, Bool.false_eq_true, q_bI0, q_bI1, q_cbI, Nat.or_zero, mst_row, mrow_neA, mrow_neB, mrow_self, q_upd, ]
    rw [Nat.mul_comm]
  rw [f_X4_bestIn, k_group h hp hw, Option.bind_some, e0]
  refine Wh_it (V - 1) (fun k => (nI (gsN (fun v => vts r V n N p (lab r p w) v) k), nI (k + 1))) rfl (fun k hk => ?_) ?_
  · show f_X4_bestIn_L17 sh ln j (nI (8 * lab r p w)) μ (nI (gsN (fun v => vts r V n N p (lab r p w) v) k)) (nI (k + 1)) = some (.inl (nI (gsN (fun v => vts r V n N p (lab r p w) v) (k + 1)), nI (k + 1 + 1)))
    have hg := gsN_le (fun v => vts r V n N p (lab r p w) v) k
    have e1 : f_X1_at sh ln 1 μ (nI (8 * lab r p w + (k + 1))) = some (nI (vts r V n N p (lab r p w) (k + 1))) := by rw [k_at (by omega) (by omega), hR (lab r p w) (k + 1) hl (by omega)]
    have e2 : f_X1_at sh ln 1 μ (nI (8 * lab r p w + gsN (fun v => vts r V n N p (lab r p w) v) k)) = some (nI (vts r V n N p (lab r p w) (gsN (fun v => vts r V n N p (lab r p w) v) k))) := by rw [k_at (by omega) (by omega), hR (lab r p w) _ hl (by omega)]
    have b1 := vts_le r V n N p (lab r p w) (k + 1)
    have b2 := vts_le r V n N p (lab r p w) (gsN (fun v => vts r V n N p (lab r p w) v) k)
    have es : gsN (fun v => vts r V n N p (lab r p w) v) (k + 1) = if vts r V n N p (lab r p w) (gsN (fun v => vts r V n N p (lab r p w) v) k) < vts r V n N p (lab r p w) (k + 1) then k + 1 else gsN (fun v => vts r V n N p (lab r p w) v) k := rfl
    rw [es]
    by_cases c : vts r V n N p (lab r p w) (gsN (fun v => vts r V n N p (lab r p w) v) k) < vts r V n N p (lab r p w) (k + 1)
    · rw [if_pos c]
      simp (disch := omega) only [Option.bind_some, Option.map_some, Option.bind_none, q_lit, nI_add, pk_mul, q_sub, q_addn, q_cl, q_le, q_lt, q_eq, q_ck, q_cd, q_cb0, q_cb1, q_div, q_rem, q_shl1, q_shr, q_and, q_or, q_tb, if_pos, if_neg, if_true, if_false, not_true, not_false_iff, eq_self, Bool.true_eq_false, Bool.false_eq_true, q_bI0, q_bI1, q_cbI, Nat.or_zero, mst_row, mrow_neA, mrow_neB, mrow_self, q_upd, f_X4_bestIn_L17, h.c0, e1, e2]
    · rw [if_neg c]
      simp (disch := omega) only [Option.bind_some, Option.map_some, Option.bind_none, q_lit, nI_add, pk_mul, q_sub, q_addn, q_cl, q_le, q_lt, q_eq, q_ck, q_cd, q_cb0, q_cb1, q_div, q_rem, q_shl1, q_shr, q_and, q_or, q_tb, if_pos, if_neg, if_true, if_false, not_true, not_false_iff, eq_self, Bool.true_eq_false, Bool.false_eq_true, q_bI0, q_bI1, q_cbI, Nat.or_zero, mst_row, mrow_neA, mrow_neB, mrow_self, q_upd, f_X4_bestIn_L17, h.c0, e1, e2]
  · show f_X4_bestIn_L17 sh ln j (nI (8 * lab r p w)) μ (nI (gsN (fun v => vts r V n N p (lab r p w) v) (V - 1))) (nI (V - 1 + 1)) = _
    rw [show V - 1 + 1 = V by omega]
    simp (disch := omega) only [Option.bind_some, Option.map_some, Option.bind_none, q_lit, nI_add, pk_mul, q_sub, q_addn, q_cl, q_le, q_lt, q_eq, q_ck, q_cd, q_cb0, q_cb1, q_div, q_rem, q_shl1, q_shr, q_and, q_or, q_tb, if_pos, if_neg, if_true, if_false, not_true, not_false_iff, eq_self, Bool.true_eq_false, Bool.false_eq_true, q_bI0, q_bI1, q_cbI, Nat.or_zero, mst_row, mrow_neA, mrow_neB, mrow_self, q_upd, f_X4_bestIn_L17, h.c0, Nat.le_refl]
    rfl
theorem k_guess (h : CS ln μ j V n N w0 r) (hL : LN ln) {p w : Nat} (hp : p < n) (hw : w < N) : ∃ R, f_X4_guessIn sh ln j μ (nI p) (nI w) = some (nI (gue r V n N p w), mrow μ (12, 1) R) := by
  obtain ⟨R, e, hR⟩ := k_tally (sh := sh) h hL hp
  have h' := h.rowS (a := 12) (b := 1) R (by omega) (by omega)
  refine ⟨R, ?_⟩
  rw [f_X4_guessIn, e, Option.bind_some, k_bestIn h' hL hp hw (fun g v hg hv => by rw [mrow_self]; exact hR g v hg hv), Option.bind_some]
theorem k_right (h : CS ln μ j V n N w0 r) (hL : LN ln) {v : Int32} {P : Nat → Bool} (hv : (v = -nI 1 ∧ P = fun _ => true) ∨ (∃ p0, p0 < n ∧ v = nI p0 ∧ P = fun p => decide (p = p0))) :
    ∃ μ', f_X4_rightGuesses sh ln j μ v = some (nI (cnt N (rgt r V n N P n)), μ') ∧ FrC (fun c => c = 1 ∨ c = 4) μ μ' := by
  have hb := h.1.b
  have hl4 : ln 4 = 512 := hL.2.2.2.2.1
  have hh : ∃ x, f_X4_rightGuesses sh ln j μ v = some x ∧ ∃ μ', x = (nI (cnt N (rgt r V n N P n)), μ') ∧ FrC (fun c => c = 1 ∨ c = 4) μ μ' := by
    rw [f_X4_rightGuesses, h.c2, k_become (by omega) h.stl.1 (by omega) h.stl.2, Option.bind_some]
    refine Wh_inv1 n (fun k s => ∃ a, s = (a, nI k) ∧ CS ln a j V n N w0 r ∧ FrC (fun c => c = 1 ∨ c = 4) μ a ∧ ∀ w, w < N → a (12, 4) w = bI (rgt r V n N P k w)) _ ⟨_, rfl, h.rowS _ (by omega) (by omega), FrC.rf.mr (Or.inr rfl), fun w hw => by rw [mrow_self, if_pos hw, h.stay w hw]; simp [rgt, anyN]⟩ ?_ ?_
    · rintro k _ hk ⟨a, rfl, ha, hF, hC⟩
      have hPk : (P k = true ∧ (v = -nI 1 ∨ ¬ v = -nI 1 ∧ v = nI k)) ∨ (P k = false ∧ ¬ v = -nI 1 ∧ ¬ v = nI k) := by
        rcases hv with ⟨rfl, rfl⟩ | ⟨p0, hp0, rfl, rfl⟩
        · exact Or.inl ⟨rfl, Or.inl rfl⟩
        · have h3 : ∀ k, k < 9 → ¬ nI k = -nI 1 := by decide +kernel
          by_cases c : k = p0
          · subst c; exact Or.inl ⟨by simp, Or.inr ⟨h3 k (by omega), rfl⟩⟩
          · exact Or.inr ⟨by simp [c], h3 p0 (by omega), by rw [q_eq (by omega) (by omega)]; omega⟩
      have es : ∀ w, rgt r V n N P (k + 1) w = (rgt r V n N P k w && !(P k && !decide (gue r V n N k w = fig V n k w))) := fun w => by
        unfold rgt
        rw [anyN, Bool.not_or, Bool.and_assoc]
      rcases hPk with ⟨hP, hv2⟩ | ⟨hP, hv1, hv2⟩
      · obtain ⟨R, e1, hR⟩ := k_tally (sh := sh) ha hL hk
        have ha' := ha.rowS (a := 12) (b := 1) R (by omega) (by omega)
        have hin : ∃ x, f_X4_strikeWrong sh ln j (mrow a (12, 1) R) (nI k) = some x ∧ ∃ C, x = mrow (mrow a (12, 1) R) (12, 4) C ∧ ∀ w, w < N → C w = bI (rgt r V n N P (k + 1) w) := by
          unfold f_X4_strikeWrong
          refine Wh_inv1 N (fun i s => ∃ C, s = (mrow (mrow a (12, 1) R) (12, 4) C, nI i) ∧ ∀ w, w < N → C w = bI (if w < i then rgt r V n N P (k + 1) w else rgt r V n N P k w)) _ ⟨a (12, 4), ?_, fun w hw => by rw [if_neg (by omega)]; exact hC w hw⟩ ?_ ?_
          · have : a (12, 4) = (mrow a (12, 1) R) (12, 4) := by rw [mrow_neB (by omega)]
            rw [this, mrow_id]
            rfl
          · rintro i _ hi ⟨C, rfl, hC⟩
            have h2 := ha'.rowS (a := 12) (b := 4) C (by omega) (by omega)
            have eg : f_X4_bestIn sh ln j (mrow (mrow a (12, 1) R) (12, 4) C) (nI k) (nI i) = some (nI (gue r V n N k i)) := k_bestIn h2 hL hk hi (fun g v hg hv => by rw [mrow_neB (by omega), mrow_self]; exact hR g v hg hv)
            have g1 := gue_lt (r := r) (n := n) (N := N) (p := k) (w := i) hb.1
            have g2 := fig_lt hb.1 n k i
            have hCi := hC i hi
            rw [if_neg (Nat.lt_irrefl i)] at hCi
            have hes := es i
            rw [hP, Bool.true_and, Bool.not_not] at hes
            have e4 : f_X1_at sh ln 4 (mrow (mrow a (12, 1) R) (12, 4) C) (nI i) = some (bI (rgt r V n N P k i)) := by rw [k_at (by omega) (by omega), mrow_self, hCi]
            have step : ∀ w, w < N → w ≠ i → bI (if w < i then rgt r V n N P (k + 1) w else rgt r V n N P k w) = bI (if w < i + 1 then rgt r V n N P (k + 1) w else rgt r V n N P k w) := fun w hw e => by
              by_cases c : w < i
              · rw [if_pos c, if_pos (by omega)]
              · rw [if_neg c, if_neg (by omega)]
            by_cases hc : rgt r V n N P k i = true
            · by_cases c2 : gue r V n N k i = fig V n k i
              · refine ⟨(mrow (mrow a (12, 1) R) (12, 4) C, nI (i + 1)), ?_, C, rfl, fun w hw => ?_⟩
                · show f_X4_strikeWrong_L2 sh ln j (nI k) (mrow (mrow a (12, 1) R) (12, 4) C) (nI i) = _
                  simp (disch := omega) only [Option.bind_some, Option.map_some, Option.bind_none, q_lit, nI_add, pk_mul, q_sub, q_addn, q_cl, q_le, q_lt, q_eq, q_ck, q_cd, q_cb0, q_cb1, q_div, q_rem, q_shl1, q_shr, q_and, q_or, q_tb, if_pos, if_neg, if_true, if_false, not_true, not_false_iff, eq_self, Bool.true_eq_false, Bool.false_eq_true, q_bI0, q_bI1, q_cbI, Nat.or_zero, mst_row, mrow_neA, mrow_neB, mrow_self, q_upd, f_X4_strikeWrong_L2, h2.c2, e4, hc, eg, k_figure h2 hk hi, c2]
                · by_cases e : w = i
                  · subst e; rw [hCi, if_pos (by omega), hes, decide_eq_true c2, Bool.and_true]
                  · rw [hC w hw, step w hw e]
              · refine ⟨(mrow (mrow a (12, 1) R) (12, 4) (upd C i (nI 0)), nI (i + 1)), ?_, upd C i (nI 0), rfl, fun w hw => ?_⟩
                · show f_X4_strikeWrong_L2 sh ln j (nI k) (mrow (mrow a (12, 1) R) (12, 4) C) (nI i) = _
                  simp (disch := omega) only [Option.bind_some, Option.map_some, Option.bind_none, q_lit, nI_add, pk_mul, q_sub, q_addn, q_cl, q_le, q_lt, q_eq, q_ck, q_cd, q_cb0, q_cb1, q_div, q_rem, q_shl1, q_shr, q_and, q_or, q_tb, if_pos, if_neg, if_true, if_false, not_true, not_false_iff, eq_self, Bool.true_eq_false, Bool.false_eq_true, q_bI0, q_bI1, q_cbI, Nat.or_zero, mst_row, mrow_neA, mrow_neB, mrow_self, q_upd, f_X4_strikeWrong_L2, h2.c2, e4, hc, eg, k_figure h2 hk hi, c2, k_put4 hL (show i < 512 by omega)]
                · rw [q_upd]
                  by_cases e : w = i
                  · subst e; rw [if_pos rfl, if_pos (by omega), hes, decide_eq_false c2, Bool.and_false]; rfl
                  · rw [if_neg e, hC w hw, step w hw e]
            · have hc := Bool.not_eq_true _ ▸ hc
              refine ⟨(mrow (mrow a (12, 1) R) (12, 4) C, nI (i + 1)), ?_, C, rfl, fun w hw => ?_⟩
              · show f_X4_strikeWrong_L2 sh ln j (nI k) (mrow (mrow a (12, 1) R) (12, 4) C) (nI i) = _
                simp (disch := omega) only [Option.bind_some, Option.map_some, Option.bind_none, q_lit, nI_add, pk_mul, q_sub, q_addn, q_cl, q_le, q_lt, q_eq, q_ck, q_cd, q_cb0, q_cb1, q_div, q_rem, q_shl1, q_shr, q_and, q_or, q_tb, if_pos, if_neg, if_true, if_false, not_true, not_false_iff, eq_self, Bool.true_eq_false, Bool.false_eq_true, q_bI0, q_bI1, q_cbI, Nat.or_zero, mst_row, mrow_neA, mrow_neB, mrow_self, q_upd, f_X4_strikeWrong_L2, h2.c2, e4, hc]
              · by_cases e : w = i
                · subst e; rw [hCi, if_pos (by omega), hes, hc, Bool.false_and]
                · rw [hC w hw, step w hw e]
          · rintro _ ⟨C, rfl, hC⟩
            have h2 := ha'.rowS (a := 12) (b := 4) C (by omega) (by omega)
            refine ⟨_, ?_, C, rfl, fun w hw => by rw [hC w hw, if_pos hw]⟩
            show f_X4_strikeWrong_L2 sh ln j (nI k) (mrow (mrow a (12, 1) R) (12, 4) C) (nI N) = _
            simp (disch := omega) only [Option.bind_some, Option.map_some, Option.bind_none, q_lit, nI_add, pk_mul, q_sub, q_addn, q_cl, q_le, q_lt, q_eq, q_ck, q_cd, q_cb0, q_cb1, q_div, q_rem, q_shl1, q_shr, q_and, q_or, q_tb, if_pos, if_neg, if_true, if_false, not_true, not_false_iff, eq_self, Bool.true_eq_false, Bool.false_eq_true, q_bI0, q_bI1, q_cbI, Nat.or_zero, mst_row, mrow_neA, mrow_neB, mrow_self, q_upd, f_X4_strikeWrong_L2, h2.c2, Nat.le_refl]
        obtain ⟨_, e2, C2, rfl, hC2⟩ := hin
        refine ⟨(mrow (mrow a (12, 1) R) (12, 4) C2, nI (k + 1)), ?_, _, rfl, ha'.rowS _ (by omega) (by omega), (hF.mr (Or.inl rfl)).mr (Or.inr rfl), fun w hw => by rw [mrow_self]; exact hC2 w hw⟩
        show f_X4_rightGuesses_L17 sh ln j v a (nI k) = _
        rcases hv2 with hv2 | ⟨hv2, hv3⟩
        · simp (disch := omega) only [Option.bind_some, Option.map_some, Option.bind_none, q_lit, nI_add, pk_mul, q_sub, q_addn, q_cl, q_le, q_lt, q_eq, q_ck, q_cd, q_cb0, q_cb1, q_div, q_rem, q_shl1, q_shr, q_and, q_or, q_tb, if_pos, if_neg, if_true, if_false, not_true, not_false_iff, eq_self, Bool.true_eq_false, Bool.false_eq_true, q_bI0, q_bI1, q_cbI, Nat.or_zero, mst_row, mrow_neA, mrow_neB, mrow_self, q_upd, f_X4_rightGuesses_L17, ha.c1, hv2, e1, e2]
        · simp (disch := omega) only [Option.bind_some, Option.map_some, Option.bind_none, q_lit, nI_add, pk_mul, q_sub, q_addn, q_cl, q_le, q_lt, q_eq, q_ck, q_cd, q_cb0, q_cb1, q_div, q_rem, q_shl1, q_shr, q_and, q_or, q_tb, if_pos, if_neg, if_true, if_false, not_true, not_false_iff, eq_self, Bool.true_eq_false, Bool.false_eq_true, q_bI0, q_bI1, q_cbI, Nat.or_zero, mst_row, mrow_neA, mrow_neB, mrow_self, q_upd, f_X4_rightGuesses_L17, ha.c1, if_neg hv2, if_pos hv3, e1, e2]
      · refine ⟨(a, nI (k + 1)), ?_, a, rfl, ha, hF, fun w hw => by rw [hC w hw, es, hP]; simp⟩
        show f_X4_rightGuesses_L17 sh ln j v a (nI k) = _
        simp (disch := omega) only [Option.bind_some, Option.map_some, Option.bind_none, q_lit, nI_add, pk_mul, q_sub, q_addn, q_cl, q_le, q_lt, q_eq, q_ck, q_cd, q_cb0, q_cb1, q_div, q_rem, q_shl1, q_shr, q_and, q_or, q_tb, if_pos, if_neg, if_true, if_false, not_true, not_false_iff, eq_self, Bool.true_eq_false, Bool.false_eq_true, q_bI0, q_bI1, q_cbI, Nat.or_zero, mst_row, mrow_neA, mrow_neB, mrow_self, q_upd, f_X4_rightGuesses_L17, ha.c1, if_neg hv1, if_neg hv2]
    · rintro _ ⟨a, rfl, ha, hF, hC⟩
      have e2 : Wh (fun z : Int32 × Int32 => f_X4_rightGuesses_L58 sh ln j a z.1 z.2) (nI 0, nI 0) = some (nI (cnt N (rgt r V n N P n)), a) := by
        refine Wh_it N (fun k => (nI (cnt k (rgt r V n N P n)), nI k)) rfl (fun k hk => ?_) ?_
        · show f_X4_rightGuesses_L58 sh ln j a (nI (cnt k (rgt r V n N P n))) (nI k) = some (.inl (nI (cnt (k + 1) (rgt r V n N P n)), nI (k + 1)))
          have e4 : f_X1_at sh ln 4 a (nI k) = some (bI (rgt r V n N P n k)) := by rw [k_at (by omega) (by omega), hC k hk]
          rw [cnt_s]
          by_cases c : rgt r V n N P n k = true
          · simp (disch := omega) only [Option.bind_some, Option.map_some, Option.bind_none, q_lit, nI_add, pk_mul, q_sub, q_addn, q_cl, q_le, q_lt, q_eq, q_ck, q_cd, q_cb0, q_cb1, q_div, q_rem, q_shl1, q_shr, q_and, q_or, q_tb, if_pos, if_neg, if_true, if_false, not_true, not_false_iff, eq_self, Bool.true_eq_false, Bool.false_eq_true, q_bI0, q_bI1, q_cbI, Nat.or_zero, mst_row, mrow_neA, mrow_neB, mrow_self, q_upd, f_X4_rightGuesses_L58, ha.c2, e4, c, bI_t]
          · have c := Bool.not_eq_true _ ▸ c
            simp (disch := omega) only [Option.bind_some, Option.map_some, Option.bind_none, q_lit, nI_add, pk_mul, q_sub, q_addn, q_cl, q_le, q_lt, q_eq, q_ck, q_cd, q_cb0, q_cb1, q_div, q_rem, q_shl1, q_shr, q_and, q_or, q_tb, if_pos, if_neg, if_true, if_false, not_true, not_false_iff, eq_self, Bool.true_eq_false, Bool.false_eq_true, q_bI0, q_bI1, q_cbI, Nat.or_zero, mst_row, mrow_neA, mrow_neB, mrow_self, q_upd, f_X4_rightGuesses_L58, ha.c2, e4, c, bI_f]
        · show f_X4_rightGuesses_L58 sh ln j a (nI (cnt N (rgt r V n N P n))) (nI N) = _
          simp (disch := omega) only [Option.bind_some, Option.map_some, Option.bind_none, q_lit, nI_add, pk_mul, q_sub, q_addn, q_cl, q_le, q_lt, q_eq, q_ck, q_cd, q_cb0, q_cb1, q_div, q_rem, q_shl1, q_shr, q_and, q_or, q_tb, if_pos, if_neg, if_true, if_false, not_true, not_false_iff, eq_self, Bool.true_eq_false, Bool.false_eq_true, q_bI0, q_bI1, q_cbI, Nat.or_zero, mst_row, mrow_neA, mrow_neB, mrow_self, q_upd, f_X4_rightGuesses_L58, ha.c2, Nat.le_refl]
      refine ⟨(nI (cnt N (rgt r V n N P n)), a), ?_, a, rfl, hF⟩
      show f_X4_rightGuesses_L17 sh ln j v a (nI n) = _
      simp (disch := omega) only [Option.bind_some, Option.map_some, Option.bind_none, q_lit, nI_add, pk_mul, q_sub, q_addn, q_cl, q_le, q_lt, q_eq, q_ck, q_cd, q_cb0, q_cb1, q_div, q_rem, q_shl1, q_shr, q_and, q_or, q_tb, if_pos, if_neg, if_true, if_false, not_true, not_false_iff, eq_self, Bool.true_eq_false, Bool.false_eq_true, q_bI0, q_bI1, q_cbI, Nat.or_zero, mst_row, mrow_neA, mrow_neB, mrow_self, q_upd, f_X4_rightGuesses_L17, ha.c1, Nat.le_refl, e2]
  obtain ⟨_, e, a, rfl, hF⟩ := hh
  exact ⟨a, e, hF⟩
end GUEK
