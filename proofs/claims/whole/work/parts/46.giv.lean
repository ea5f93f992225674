-- who gives one's notice away, who never does
def key8 (r : Nat → Int32) (cm : Nat → Nat) (q w : Nat) : Nat := 8 * lab r q w + cm w
/-- one would be sure behind being treated by p in w -/
def wgt (r : Nat → Int32) (Λo : Option LW) (V n N p q w : Nat) : Bool := sur (poss (lf r) (key8 r (cmm r Λo V n N p q) q) (fig V n q) N (key8 r (cmm r Λo V n N p q) q w))
def gvs (r : Nat → Int32) (Λo : Option LW) (V n N w0 q m : Nat) : Nat := orN m (fun p => if (¬ p = q ∧ (se r p).testBit q = true) ∧ wgt r Λo V n N p q w0 = true then 2 ^ p else 0)
def mks (r : Nat → Int32) (Λo : Option LW) (V n N p q : Nat) (m : Nat) : Bool := anyN m (fun w => (lf r w && !suR r V n N q w) && wgt r Λo V n N p q w)
def nvs (r : Nat → Int32) (Λo : Option LW) (V n N q m : Nat) : Nat := orN m (fun p => if (¬ p = q ∧ (se r p).testBit q = true) ∧ mks r Λo V n N p q N = false then 2 ^ p else 0)
theorem gvs_512 {r : Nat → Int32} {Λo : Option LW} {V n N w0 q m : Nat} (hm : m ≤ 9) : gvs r Λo V n N w0 q m < 512 := orN_lt (b := 9) (fun k hk => by
  split
  · exact Nat.pow_lt_pow_right (by decide) (by omega)
  · decide)
theorem nvs_512 {r : Nat → Int32} {Λo : Option LW} {V n N q m : Nat} (hm : m ≤ 9) : nvs r Λo V n N q m < 512 := orN_lt (b := 9) (fun k hk => by
  split
  · exact Nat.pow_lt_pow_right (by decide) (by omega)
  · decide)
section GIVQ
variable {μ : Mm} {V n N w0 : Nat} {r : Nat → Int32} {Λo : Option LW}
theorem q_maskAt (h : RS μ V n N w0 r) {q w : Nat} {cm : Nat → Nat} (hq : q < n) (hw : w < N) (hc : μ (9, 0) w = nI (cm w)) (hc8 : cm w < 8) : f_X11_maskAt μ (nI q) (nI w) = some (nI (key8 r cm q w)) := by
  have hb := h.2.b
  have hl := (h.2.hb hq hw).2
  unfold key8
  simp (disch := omega) only [Option.bind_some, Option.map_some, Option.bind_none, q_lit, nI_add, pk_mul, q_sub, q_addn, q_cl, q_le, q_lt, q_eq, q_ck, q_cd, q_cb0, q_cb1, q_div, q_rem, q_shl1, q_shr, q_and, q_or, q_tb, if_pos, if_neg, if_true, if_false, not_true, not_false_iff, eq_self, Bool.true_eq_false, Bool.false_eq_true, q_bI0, q_bI1, q_cbI, Nat.or_zero, mst_row, mrow_neA, mrow_neB, mrow_self, q_upd, f_X11_maskAt, q_label h hq hw, hc]
theorem q_laysMore (h : RS μ V n N w0 r) {q : Nat} {cm : Nat → Nat} (hq : q < n) (hc : ∀ w, w < N → lf r w = true → μ (9, 0) w = nI (cm w)) (hc8 : ∀ w, w < N → cm w < 8) :
    ∃ R, f_X11_laysMore μ (nI q) = some (mrow μ (29, 0) R) ∧ ∀ k, k < 4096 → R k = nI (poss (lf r) (key8 r cm q) (fig V n q) N k) := by
  have hb := h.2.b
  have hh : ∃ x, f_X11_laysMore μ (nI q) = some x ∧ ∃ R, x = mrow μ (29, 0) R ∧ ∀ k, k < 4096 → R k = nI (poss (lf r) (key8 r cm q) (fig V n q) N k) := by
    unfold f_X11_laysMore
    refine Wh_inv1 4096 (fun k s => ∃ R, s = (mrow μ (29, 0) R, nI k) ∧ ∀ i, i < k → R i = nI 0) _ ⟨μ (29, 0), by rw [mrow_id]; rfl, fun i hi => by omega⟩ ?_ ?_
    · rintro k _ hk ⟨R, rfl, hR⟩
      refine ⟨(mrow μ (29, 0) (upd R k (nI 0)), nI (k + 1)), ?_, _, rfl, fun i hi => ?_⟩
      · show f_X11_laysMore_L2 (nI q) (mrow μ (29, 0) R) (nI k) = _
        simp (disch := omega) only [Option.bind_some, Option.map_some, Option.bind_none, q_lit, nI_add, pk_mul, q_sub, q_addn, q_cl, q_le, q_lt, q_eq, q_ck, q_cd, q_cb0, q_cb1, q_div, q_rem, q_shl1, q_shr, q_and, q_or, q_tb, if_pos, if_neg, if_true, if_false, not_true, not_false_iff, eq_self, Bool.true_eq_false, Bool.false_eq_true, q_bI0, q_bI1, q_cbI, Nat.or_zero, mst_row, mrow_neA, mrow_neB, mrow_self, q_upd, f_X11_laysMore_L2, mrow_mrow]
      · rw [q_upd]
        by_cases e : i = k
        · rw [if_pos e]
        · rw [if_neg e]; exact hR i (by omega)
    · rintro _ ⟨R, rfl, hR⟩
      have hh : ∃ x, Wh (fun z : Mm × Int32 => f_X11_laysMore_L26 (nI q) z.1 z.2) (mrow μ (29, 0) R, nI 0) = some x ∧ ∃ R, x = mrow μ (29, 0) R ∧ ∀ k, k < 4096 → R k = nI (poss (lf r) (key8 r cm q) (fig V n q) N k) := by
        refine Wh_inv1 N (fun k s => ∃ R, s = (mrow μ (29, 0) R, nI k) ∧ ∀ i, i < 4096 → R i = nI (poss (lf r) (key8 r cm q) (fig V n q) k i)) _ ⟨R, rfl, fun i hi => by rw [hR i hi, poss_0]⟩ ?_ ?_
        · rintro k _ hk ⟨R, rfl, hR⟩
          have h' := h.row (a := 29) (b := 0) R (by omega)
          by_cases c : lf r k = true
          · have hl := (h.2.hb hq hk).2
            have hf := fig_lt hb.1 n q k
            have h8 := hc8 k hk
            have hkk : key8 r cm q k < 4096 := by unfold key8; omega
            have em := q_maskAt h' (cm := cm) hq hk (by rw [mrow_neA (by omega)]; exact hc k hk c) h8
            have hRk := hR _ hkk
            refine ⟨(mrow μ (29, 0) (upd R (key8 r cm q k) (nI (poss (lf r) (key8 r cm q) (fig V n q) k (key8 r cm q k) ||| 2 ^ fig V n q k))), nI (k + 1)), ?_, _, rfl, fun i hi => ?_⟩
            · show f_X11_laysMore_L26 (nI q) (mrow μ (29, 0) R) (nI k) = _
              simp (disch := omega) only [Option.bind_some, Option.map_some, Option.bind_none, q_lit, nI_add, pk_mul, q_sub, q_addn, q_cl, q_le, q_lt, q_eq, q_ck, q_cd, q_cb0, q_cb1, q_div, q_rem, q_shl1, q_shr, q_and, q_or, q_tb, if_pos, if_neg, if_true, if_false, not_true, not_false_iff, eq_self, Bool.true_eq_false, Bool.false_eq_true, q_bI0, q_bI1, q_cbI, Nat.or_zero, mst_row, mrow_neA, mrow_neB, mrow_self, q_upd, f_X11_laysMore_L26, q_worlds h', q_isLeft h' hk, c, em, q_noticeIn h' hq hk, hRk, mrow_mrow, bI_t]
            · rw [q_upd, poss_s]
              by_cases e : i = key8 r cm q k
              · subst e; simp [c]
              · simp [e, Ne.symm e, hR i hi]
          · have c' := Bool.not_eq_true _ ▸ c
            refine ⟨(mrow μ (29, 0) R, nI (k + 1)), ?_, R, rfl, fun i hi => ?_⟩
            · show f_X11_laysMore_L26 (nI q) (mrow μ (29, 0) R) (nI k) = _
              simp (disch := omega) only [Option.bind_some, Option.map_some, Option.bind_none, q_lit, nI_add, pk_mul, q_sub, q_addn, q_cl, q_le, q_lt, q_eq, q_ck, q_cd, q_cb0, q_cb1, q_div, q_rem, q_shl1, q_shr, q_and, q_or, q_tb, if_pos, if_neg, if_true, if_false, not_true, not_false_iff, eq_self, Bool.true_eq_false, Bool.false_eq_true, q_bI0, q_bI1, q_cbI, Nat.or_zero, mst_row, mrow_neA, mrow_neB, mrow_self, q_upd, f_X11_laysMore_L26, q_worlds h', q_isLeft h' hk, c', bI_f]
            · rw [poss_s, hR i hi]; simp [c']
        · rintro _ ⟨R, rfl, hR⟩
          have h' := h.row (a := 29) (b := 0) R (by omega)
          refine ⟨_, ?_, R, rfl, hR⟩
          show f_X11_laysMore_L26 (nI q) (mrow μ (29, 0) R) (nI N) = _
          simp (disch := omega) only [Option.bind_some, Option.map_some, Option.bind_none, q_lit, nI_add, pk_mul, q_sub, q_addn, q_cl, q_le, q_lt, q_eq, q_ck, q_cd, q_cb0, q_cb1, q_div, q_rem, q_shl1, q_shr, q_and, q_or, q_tb, if_pos, if_neg, if_true, if_false, not_true, not_false_iff, eq_self, Bool.true_eq_false, Bool.false_eq_true, q_bI0, q_bI1, q_cbI, Nat.or_zero, mst_row, mrow_neA, mrow_neB, mrow_self, q_upd, f_X11_laysMore_L26, q_worlds h', Nat.le_refl]
      obtain ⟨_, e, R', rfl, hR'⟩ := hh
      refine ⟨_, ?_, R', rfl, hR'⟩
      show f_X11_laysMore_L2 (nI q) (mrow μ (29, 0) R) (nI 4096) = _
      simp (disch := omega) only [Option.bind_some, Option.map_some, Option.bind_none, q_lit, nI_add, pk_mul, q_sub, q_addn, q_cl, q_le, q_lt, q_eq, q_ck, q_cd, q_cb0, q_cb1, q_div, q_rem, q_shl1, q_shr, q_and, q_or, q_tb, if_pos, if_neg, if_true, if_false, not_true, not_false_iff, eq_self, Bool.true_eq_false, Bool.false_eq_true, q_bI0, q_bI1, q_cbI, Nat.or_zero, mst_row, mrow_neA, mrow_neB, mrow_self, q_upd, f_X11_laysMore_L2, Nat.le_refl, e]
  obtain ⟨_, e, R, rfl, hR⟩ := hh
  exact ⟨R, e, hR⟩
/-- p's manners to q are told, and what q would hold possible -/
theorem q_weigh (h : RS μ V n N w0 r) (hRL : LRw r Λo) {p q : Nat} (hp : p < n) (hq : q < n) :
    ∃ a b, f_X11_mannersCome μ (nI p) (nI q) = some a ∧ f_X11_laysMore a (nI q) = some b ∧ Fr [8, 9, 22, 23, 24, 29] μ b ∧ (∀ w, w < N → lf r w = true → b (9, 0) w = nI (cmm r Λo V n N p q w)) ∧
      ∀ w, w < N → lf r w = true → ∃ m, b (29, 0) (key8 r (cmm r Λo V n N p q) q w) = nI m ∧ m < 16 ∧ one m = wgt r Λo V n N p q w ∧ key8 r (cmm r Λo V n N p q) q w < 4096 := by
  have hb := h.2.b
  obtain ⟨a, e1, hF, hC⟩ := q_mannersCome h hRL hp hq
  have ha := h.fr hF (by decide)
  obtain ⟨R, e2, hR⟩ := q_laysMore ha (cm := cmm r Λo V n N p q) hq hC (fun w _ => cmm_lt ⟨hb.1, hb.2.1⟩)
  refine ⟨a, _, e1, e2, (hF.mono (by decide)).mr (by decide), fun w hw hl => by rw [mrow_neA (by omega)]; exact hC w hw hl, fun w hw hl => ?_⟩
  have h8 : cmm r Λo V n N p q w < 8 := cmm_lt ⟨hb.1, hb.2.1⟩
  have hlb := (h.2.hb hq hw).2
  have hkk : key8 r (cmm r Λo V n N p q) q w < 4096 := by unfold key8; omega
  refine ⟨_, by rw [mrow_self]; exact hR _ hkk, poss_16 ⟨hb.1, hb.2.1⟩, one_sur (poss_ne0 (lb := key8 r (cmm r Λo V n N p q) q) hw hl), hkk⟩
theorem q_gives (h : RS μ V n N w0 r) (hRL : LRw r Λo) {q : Nat} (hq : q < n) :
    ∃ a, Wh (fun z : Mm × Int32 × Int32 => f_X11_gives_L24 (nI q) z.1 z.2.1 z.2.2) (μ, nI 0, nI 0) = some (nI (gvs r Λo V n N w0 q n), a) ∧ Fr [8, 9, 22, 23, 24, 29] μ a := by
  have hb := h.2.b
  have hh : ∃ x, Wh (fun z : Mm × Int32 × Int32 => f_X11_gives_L24 (nI q) z.1 z.2.1 z.2.2) (μ, nI 0, nI 0) = some x ∧ ∃ a, x = (nI (gvs r Λo V n N w0 q n), a) ∧ Fr [8, 9, 22, 23, 24, 29] μ a := by
    refine Wh_inv1 n (fun k s => ∃ a, s = (a, nI (gvs r Λo V n N w0 q k), nI k) ∧ Fr [8, 9, 22, 23, 24, 29] μ a) _ ⟨μ, rfl, Fr.rf⟩ ?_ ?_
    · rintro k _ hk ⟨a, rfl, hF⟩
      have ha := h.fr hF (by decide)
      have h5 := gvs_512 (r := r) (Λo := Λo) (V := V) (n := n) (N := N) (w0 := w0) (q := q) (m := k) (by omega)
      have es : gvs r Λo V n N w0 q (k + 1) = gvs r Λo V n N w0 q k ||| (if (¬ k = q ∧ (se r k).testBit q = true) ∧ wgt r Λo V n N k q w0 = true then 2 ^ k else 0) := rfl
      by_cases c1 : k = q
      · refine ⟨(a, nI (gvs r Λo V n N w0 q (k + 1)), nI (k + 1)), ?_, a, rfl, hF⟩
        show f_X11_gives_L24 (nI q) a (nI (gvs r Λo V n N w0 q k)) (nI k) = _
        rw [es, if_neg (fun e => e.1.1 c1), Nat.or_zero]
        simp (disch := omega) only [Option.bind_some, Option.map_some, Option.bind_none, q_lit, nI_add, pk_mul, q_sub, q_addn, q_cl, q_le, q_lt, q_eq, q_ck, q_cd, q_cb0, q_cb1, q_div, q_rem, q_shl1, q_shr, q_and, q_or, q_tb, if_pos, if_neg, if_true, if_false, not_true, not_false_iff, eq_self, Bool.true_eq_false, Bool.false_eq_true, q_bI0, q_bI1, q_cbI, Nat.or_zero, mst_row, mrow_neA, mrow_neB, mrow_self, q_upd, f_X11_gives_L24, q_people ha, c1]
      · by_cases c2 : (se r k).testBit q = true
        · obtain ⟨a1, a2, e1, e2, hF2, hC, hW⟩ := q_weigh ha hRL hk hq
          have ha2 := ha.fr hF2 (by decide)
          have h8 : cmm r Λo V n N k q w0 < 8 := cmm_lt ⟨hb.1, hb.2.1⟩
          obtain ⟨m, hm1, hm2, hm3, hm4⟩ := hW w0 hb.2.2.2.2.2 h.2.h0
          have em := q_maskAt ha2 (cm := cmm r Λo V n N k q) hq hb.2.2.2.2.2 (hC w0 hb.2.2.2.2.2 h.2.h0) h8
          refine ⟨(a2, nI (gvs r Λo V n N w0 q (k + 1)), nI (k + 1)), ?_, a2, rfl, hF.tr hF2⟩
          show f_X11_gives_L24 (nI q) a (nI (gvs r Λo V n N w0 q k)) (nI k) = _
          have hp2 : 2 ^ k < 2 ^ 9 := Nat.pow_lt_pow_right (by decide) (by omega)
          cases c3 : wgt r Λo V n N k q w0
          · rw [c3] at hm3
            rw [es, if_neg (fun e => by rw [c3] at e; exact absurd e.2 (by decide))]
            simp (disch := omega) only [Option.bind_some, Option.map_some, Option.bind_none, q_lit, nI_add, pk_mul, q_sub, q_addn, q_cl, q_le, q_lt, q_eq, q_ck, q_cd, q_cb0, q_cb1, q_div, q_rem, q_shl1, q_shr, q_and, q_or, q_tb, if_pos, if_neg, if_true, if_false, not_true, not_false_iff, eq_self, Bool.true_eq_false, Bool.false_eq_true, q_bI0, q_bI1, q_cbI, Nat.or_zero, mst_row, mrow_neA, mrow_neB, mrow_self, q_upd, f_X11_gives_L24, q_people ha, c1, q_isSeeing ha hk hq, c2, e1, e2, q_here ha2, em, hm1, q_isOne (show m < 2147483648 by omega), hm3, bI_t, bI_f]
          · rw [c3] at hm3
            rw [es, if_pos ⟨⟨c1, c2⟩, c3⟩]
            simp (disch := omega) only [Option.bind_some, Option.map_some, Option.bind_none, q_lit, nI_add, pk_mul, q_sub, q_addn, q_cl, q_le, q_lt, q_eq, q_ck, q_cd, q_cb0, q_cb1, q_div, q_rem, q_shl1, q_shr, q_and, q_or, q_tb, if_pos, if_neg, if_true, if_false, not_true, not_false_iff, eq_self, Bool.true_eq_false, Bool.false_eq_true, q_bI0, q_bI1, q_cbI, Nat.or_zero, mst_row, mrow_neA, mrow_neB, mrow_self, q_upd, f_X11_gives_L24, q_people ha, c1, q_isSeeing ha hk hq, c2, e1, e2, q_here ha2, em, hm1, q_isOne (show m < 2147483648 by omega), hm3, bI_t, bI_f]
        · have c2' := Bool.not_eq_true _ ▸ c2
          refine ⟨(a, nI (gvs r Λo V n N w0 q (k + 1)), nI (k + 1)), ?_, a, rfl, hF⟩
          show f_X11_gives_L24 (nI q) a (nI (gvs r Λo V n N w0 q k)) (nI k) = _
          rw [es, if_neg (fun e => c2 e.1.2), Nat.or_zero]
          simp (disch := omega) only [Option.bind_some, Option.map_some, Option.bind_none, q_lit, nI_add, pk_mul, q_sub, q_addn, q_cl, q_le, q_lt, q_eq, q_ck, q_cd, q_cb0, q_cb1, q_div, q_rem, q_shl1, q_shr, q_and, q_or, q_tb, if_pos, if_neg, if_true, if_false, not_true, not_false_iff, eq_self, Bool.true_eq_false, Bool.false_eq_true, q_bI0, q_bI1, q_cbI, Nat.or_zero, mst_row, mrow_neA, mrow_neB, mrow_self, q_upd, f_X11_gives_L24, q_people ha, c1, q_isSeeing ha hk hq, c2', bI_f]
    · rintro _ ⟨a, rfl, hF⟩
      have ha := h.fr hF (by decide)
      refine ⟨_, ?_, a, rfl, hF⟩
      show f_X11_gives_L24 (nI q) a (nI (gvs r Λo V n N w0 q n)) (nI n) = _
      simp (disch := omega) only [Option.bind_some, Option.map_some, Option.bind_none, q_lit, nI_add, pk_mul, q_sub, q_addn, q_cl, q_le, q_lt, q_eq, q_ck, q_cd, q_cb0, q_cb1, q_div, q_rem, q_shl1, q_shr, q_and, q_or, q_tb, if_pos, if_neg, if_true, if_false, not_true, not_false_iff, eq_self, Bool.true_eq_false, Bool.false_eq_true, q_bI0, q_bI1, q_cbI, Nat.or_zero, mst_row, mrow_neA, mrow_neB, mrow_self, q_upd, f_X11_gives_L24, q_people ha, Nat.le_refl]
  obtain ⟨_, e, a, rfl, hF⟩ := hh
  exact ⟨a, e, hF⟩
theorem q_never (h : RS μ V n N w0 r) (hRL : LRw r Λo) {q : Nat} (hq : q < n) :
    ∃ a, Wh (fun z : Mm × Int32 × Int32 => f_X11_never_L24 (nI q) z.1 z.2.1 z.2.2) (μ, nI 0, nI 0) = some (nI (nvs r Λo V n N q n), a) ∧ Fr [8, 9, 22, 23, 24, 29] μ a := by
  have hb := h.2.b
  have hh : ∃ x, Wh (fun z : Mm × Int32 × Int32 => f_X11_never_L24 (nI q) z.1 z.2.1 z.2.2) (μ, nI 0, nI 0) = some x ∧ ∃ a, x = (nI (nvs r Λo V n N q n), a) ∧ Fr [8, 9, 22, 23, 24, 29] μ a := by
    refine Wh_inv1 n (fun k s => ∃ a, s = (a, nI (nvs r Λo V n N q k), nI k) ∧ Fr [8, 9, 22, 23, 24, 29] μ a) _ ⟨μ, rfl, Fr.rf⟩ ?_ ?_
    · rintro k _ hk ⟨a, rfl, hF⟩
      have ha := h.fr hF (by decide)
      have h5 := nvs_512 (r := r) (Λo := Λo) (V := V) (n := n) (N := N) (q := q) (m := k) (by omega)
      have es : nvs r Λo V n N q (k + 1) = nvs r Λo V n N q k ||| (if (¬ k = q ∧ (se r k).testBit q = true) ∧ mks r Λo V n N k q N = false then 2 ^ k else 0) := rfl
      by_cases c1 : k = q
      · refine ⟨(a, nI (nvs r Λo V n N q (k + 1)), nI (k + 1)), ?_, a, rfl, hF⟩
        show f_X11_never_L24 (nI q) a (nI (nvs r Λo V n N q k)) (nI k) = _
        rw [es, if_neg (fun e => e.1.1 c1), Nat.or_zero]
        simp (disch := omega) only [Option.bind_some, Option.map_some, Option.bind_none, q_lit, nI_add, pk_mul, q_sub, q_addn, q_cl, q_le, q_lt, q_eq, q_ck, q_cd, q_cb0, q_cb1, q_div, q_rem, q_shl1, q_shr, q_and, q_or, q_tb, if_pos, if_neg, if_true, if_false, not_true, not_false_iff, eq_self, Bool.true_eq_false, Bool.false_eq_true, q_bI0, q_bI1, q_cbI, Nat.or_zero, mst_row, mrow_neA, mrow_neB, mrow_self, q_upd, f_X11_never_L24, q_people ha, c1]
      · by_cases c2 : (se r k).testBit q = true
        · obtain ⟨a1, a2, e1, e2, hF2, hC, hW⟩ := q_weigh ha hRL hk hq
          have ha2 := ha.fr hF2 (by decide)
          obtain ⟨_, e3, R, rfl, hR⟩ := q_lays ha2 hq hq
          have ha3 := ha2.row (a := 8) (b := 0) R (by omega)
          have eL : Wh (fun z : Int32 × Int32 => f_X11_never_L72 (nI q) (nI (nvs r Λo V n N q k)) (nI k) (mrow a2 (8, 0) R) z.1 z.2) (nI 1, nI 0) = some (.inl (mrow a2 (8, 0) R, nI (nvs r Λo V n N q (k + 1)), nI (k + 1))) := by
            refine Wh_it N (fun i => (bI (!mks r Λo V n N k q i), nI i)) rfl (fun i hi => ?_) ?_
            · show f_X11_never_L72 (nI q) (nI (nvs r Λo V n N q k)) (nI k) (mrow a2 (8, 0) R) (bI (!mks r Λo V n N k q i)) (nI i) = some (.inl (bI (!mks r Λo V n N k q (i + 1)), nI (i + 1)))
              have em : mks r Λo V n N k q (i + 1) = (mks r Λo V n N k q i || ((lf r i && !suR r V n N q i) && wgt r Λo V n N k q i)) := rfl
              rw [em]
              cases d0 : mks r Λo V n N k q i
              · cases d1 : lf r i
                · simp (disch := omega) only [Option.bind_some, Option.map_some, Option.bind_none, q_lit, nI_add, pk_mul, q_sub, q_addn, q_cl, q_le, q_lt, q_eq, q_ck, q_cd, q_cb0, q_cb1, q_div, q_rem, q_shl1, q_shr, q_and, q_or, q_tb, if_pos, if_neg, if_true, if_false, not_true, not_false_iff, eq_self, Bool.true_eq_false, Bool.false_eq_true, q_bI0, q_bI1, q_cbI, Nat.or_zero, mst_row, mrow_neA, mrow_neB, mrow_self, q_upd, f_X11_never_L72, q_worlds ha3, q_isLeft ha3 hi, d1, Bool.not_false, Bool.false_or, Bool.false_and, bI_t, bI_f]
                · have hl := (h.2.hb hq hi).2
                  have h16 : poss (lf r) (lab r q) (fig V n q) N (lab r q i) < 16 := poss_16 ⟨hb.1, hb.2.1⟩
                  have hs1 : one (poss (lf r) (lab r q) (fig V n q) N (lab r q i)) = suR r V n N q i := one_sur (poss_ne0 hi d1)
                  have h8 : cmm r Λo V n N k q i < 8 := cmm_lt ⟨hb.1, hb.2.1⟩
                  obtain ⟨m, hm1, hm2, hm3, hm4⟩ := hW i hi d1
                  have emk := q_maskAt ha3 (cm := cmm r Λo V n N k q) hq hi (by rw [mrow_neA (by omega)]; exact hC i hi d1) h8
                  cases d2 : suR r V n N q i
                  · rw [d2] at hs1
                    cases d3 : wgt r Λo V n N k q i
                    · rw [d3] at hm3
                      simp (disch := omega) only [Option.bind_some, Option.map_some, Option.bind_none, q_lit, nI_add, pk_mul, q_sub, q_addn, q_cl, q_le, q_lt, q_eq, q_ck, q_cd, q_cb0, q_cb1, q_div, q_rem, q_shl1, q_shr, q_and, q_or, q_tb, if_pos, if_neg, if_true, if_false, not_true, not_false_iff, eq_self, Bool.true_eq_false, Bool.false_eq_true, q_bI0, q_bI1, q_cbI, Nat.or_zero, mst_row, mrow_neA, mrow_neB, mrow_self, q_upd, f_X11_never_L72, q_worlds ha3, q_isLeft ha3 hi, d1, q_label ha3 hq hi, hR (lab r q i) (by omega), q_isOne (show poss (lf r) (lab r q) (fig V n q) N (lab r q i) < 2147483648 by omega), hs1, emk, hm1, q_isOne (show m < 2147483648 by omega), hm3, Bool.not_false, Bool.not_true, Bool.false_or, Bool.and_false, Bool.and_self, bI_t, bI_f]
                    · rw [d3] at hm3
                      simp (disch := omega) only [Option.bind_some, Option.map_some, Option.bind_none, q_lit, nI_add, pk_mul, q_sub, q_addn, q_cl, q_le, q_lt, q_eq, q_ck, q_cd, q_cb0, q_cb1, q_div, q_rem, q_shl1, q_shr, q_and, q_or, q_tb, if_pos, if_neg, if_true, if_false, not_true, not_false_iff, eq_self, Bool.true_eq_false, Bool.false_eq_true, q_bI0, q_bI1, q_cbI, Nat.or_zero, mst_row, mrow_neA, mrow_neB, mrow_self, q_upd, f_X11_never_L72, q_worlds ha3, q_isLeft ha3 hi, d1, q_label ha3 hq hi, hR (lab r q i) (by omega), q_isOne (show poss (lf r) (lab r q) (fig V n q) N (lab r q i) < 2147483648 by omega), hs1, emk, hm1, q_isOne (show m < 2147483648 by omega), hm3, Bool.not_false, Bool.not_true, Bool.false_or, Bool.and_false, Bool.and_self, bI_t, bI_f]
                  · rw [d2] at hs1
                    simp (disch := omega) only [Option.bind_some, Option.map_some, Option.bind_none, q_lit, nI_add, pk_mul, q_sub, q_addn, q_cl, q_le, q_lt, q_eq, q_ck, q_cd, q_cb0, q_cb1, q_div, q_rem, q_shl1, q_shr, q_and, q_or, q_tb, if_pos, if_neg, if_true, if_false, not_true, not_false_iff, eq_self, Bool.true_eq_false, Bool.false_eq_true, q_bI0, q_bI1, q_cbI, Nat.or_zero, mst_row, mrow_neA, mrow_neB, mrow_self, q_upd, f_X11_never_L72, q_worlds ha3, q_isLeft ha3 hi, d1, q_label ha3 hq hi, hR (lab r q i) (by omega), q_isOne (show poss (lf r) (lab r q) (fig V n q) N (lab r q i) < 2147483648 by omega), hs1, Bool.not_false, Bool.not_true, Bool.false_or, Bool.and_false, Bool.false_and, bI_t, bI_f]
              · simp (disch := omega) only [Option.bind_some, Option.map_some, Option.bind_none, q_lit, nI_add, pk_mul, q_sub, q_addn, q_cl, q_le, q_lt, q_eq, q_ck, q_cd, q_cb0, q_cb1, q_div, q_rem, q_shl1, q_shr, q_and, q_or, q_tb, if_pos, if_neg, if_true, if_false, not_true, not_false_iff, eq_self, Bool.true_eq_false, Bool.false_eq_true, q_bI0, q_bI1, q_cbI, Nat.or_zero, mst_row, mrow_neA, mrow_neB, mrow_self, q_upd, f_X11_never_L72, q_worlds ha3, Bool.not_true, Bool.true_or, bI_t, bI_f]
            · show f_X11_never_L72 (nI q) (nI (nvs r Λo V n N q k)) (nI k) (mrow a2 (8, 0) R) (bI (!mks r Λo V n N k q N)) (nI N) = _
              have hp2 : 2 ^ k < 2 ^ 9 := Nat.pow_lt_pow_right (by decide) (by omega)
              rw [es]
              cases d0 : mks r Λo V n N k q N
              · rw [if_pos ⟨⟨c1, c2⟩, rfl⟩]
                simp (disch := omega) only [Option.bind_some, Option.map_some, Option.bind_none, q_lit, nI_add, pk_mul, q_sub, q_addn, q_cl, q_le, q_lt, q_eq, q_ck, q_cd, q_cb0, q_cb1, q_div, q_rem, q_shl1, q_shr, q_and, q_or, q_tb, if_pos, if_neg, if_true, if_false, not_true, not_false_iff, eq_self, Bool.true_eq_false, Bool.false_eq_true, q_bI0, q_bI1, q_cbI, Nat.or_zero, mst_row, mrow_neA, mrow_neB, mrow_self, q_upd, f_X11_never_L72, q_worlds ha3, Nat.le_refl, Bool.not_false, bI_t]
              · rw [if_neg (fun e => absurd e.2 (by decide))]
                simp (disch := omega) only [Option.bind_some, Option.map_some, Option.bind_none, q_lit, nI_add, pk_mul, q_sub, q_addn, q_cl, q_le, q_lt, q_eq, q_ck, q_cd, q_cb0, q_cb1, q_div, q_rem, q_shl1, q_shr, q_and, q_or, q_tb, if_pos, if_neg, if_true, if_false, not_true, not_false_iff, eq_self, Bool.true_eq_false, Bool.false_eq_true, q_bI0, q_bI1, q_cbI, Nat.or_zero, mst_row, mrow_neA, mrow_neB, mrow_self, q_upd, f_X11_never_L72, q_worlds ha3, Nat.le_refl, Bool.not_true, bI_f]
          refine ⟨(mrow a2 (8, 0) R, nI (nvs r Λo V n N q (k + 1)), nI (k + 1)), ?_, _, rfl, (hF.tr hF2).mr (by decide)⟩
          show f_X11_never_L24 (nI q) a (nI (nvs r Λo V n N q k)) (nI k) = _
          simp (disch := omega) only [Option.bind_some, Option.map_some, Option.bind_none, q_lit, nI_add, pk_mul, q_sub, q_addn, q_cl, q_le, q_lt, q_eq, q_ck, q_cd, q_cb0, q_cb1, q_div, q_rem, q_shl1, q_shr, q_and, q_or, q_tb, if_pos, if_neg, if_true, if_false, not_true, not_false_iff, eq_self, Bool.true_eq_false, Bool.false_eq_true, q_bI0, q_bI1, q_cbI, Nat.or_zero, mst_row, mrow_neA, mrow_neB, mrow_self, q_upd, f_X11_never_L24, q_people ha, c1, q_isSeeing ha hk hq, c2, e1, e2, e3, eL, bI_t]
        · have c2' := Bool.not_eq_true _ ▸ c2
          refine ⟨(a, nI (nvs r Λo V n N q (k + 1)), nI (k + 1)), ?_, a, rfl, hF⟩
          show f_X11_never_L24 (nI q) a (nI (nvs r Λo V n N q k)) (nI k) = _
          rw [es, if_neg (fun e => c2 e.1.2), Nat.or_zero]
          simp (disch := omega) only [Option.bind_some, Option.map_some, Option.bind_none, q_lit, nI_add, pk_mul, q_sub, q_addn, q_cl, q_le, q_lt, q_eq, q_ck, q_cd, q_cb0, q_cb1, q_div, q_rem, q_shl1, q_shr, q_and, q_or, q_tb, if_pos, if_neg, if_true, if_false, not_true, not_false_iff, eq_self, Bool.true_eq_false, Bool.false_eq_true, q_bI0, q_bI1, q_cbI, Nat.or_zero, mst_row, mrow_neA, mrow_neB, mrow_self, q_upd, f_X11_never_L24, q_people ha, c1, q_isSeeing ha hk hq, c2', bI_f]
    · rintro _ ⟨a, rfl, hF⟩
      have ha := h.fr hF (by decide)
      refine ⟨_, ?_, a, rfl, hF⟩
      show f_X11_never_L24 (nI q) a (nI (nvs r Λo V n N q n)) (nI n) = _
      simp (disch := omega) only [Option.bind_some, Option.map_some, Option.bind_none, q_lit, nI_add, pk_mul, q_sub, q_addn, q_cl, q_le, q_lt, q_eq, q_ck, q_cd, q_cb0, q_cb1, q_div, q_rem, q_shl1, q_shr, q_and, q_or, q_tb, if_pos, if_neg, if_true, if_false, not_true, not_false_iff, eq_self, Bool.true_eq_false, Bool.false_eq_true, q_bI0, q_bI1, q_cbI, Nat.or_zero, mst_row, mrow_neA, mrow_neB, mrow_self, q_upd, f_X11_never_L24, q_people ha, Nat.le_refl]
  obtain ⟨_, e, a, rfl, hF⟩ := hh
  exact ⟨a, e, hF⟩
end GIVQ
