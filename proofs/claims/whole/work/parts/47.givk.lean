-- who gives one's notice away, who never does: the class
section GIVK
variable {sh : Sh} {ln : Nat → Nat} {μ : Mm} {j V n N w0 : Nat} {r : Nat → Int32} {Λo : Option LW}
theorem k_weigh (h : CS ln μ j V n N w0 r) (hL : LN ln) (hK : LRk sh μ j Λo) (hd : μ (13, j) 4 = r 4) {p q : Nat} (hp : p < n) (hq : q < n) :
    ∃ a, f_X4_weigh sh ln j μ (nI p) (nI q) = some a ∧ FrC (fun c => 1 ≤ c ∧ c < 10) μ a ∧ (∀ w, w < N → a (12, 3) w = nI (cmm r Λo V n N p q w)) ∧
      ∀ i, i < N * 8 → a (12, 1) i = nI (poss (lf r) (key8 r (cmm r Λo V n N p q) q) (fig V n q) N i) := by
  have hb := h.1.b
  have hl1 : ln 1 = 4096 := hL.2.1
  have hl3 : ln 3 = 512 := hL.2.2.2.1
  obtain ⟨a0, e0, hF0, hC, _⟩ := k_meet (sh := sh) h hL hK hd hp hq
  have h0 : CS ln a0 j V n N w0 r := h.scr (hF0.mono (fun c hc => by omega))
  have e1 : f_X1_fill sh ln 1 a0 (0 : Int32) (nI N * (8 : Int32)) = some (mrow a0 (12, 1) (fun i => if i < N * 8 then nI 0 else a0 (12, 1) i)) := by
    rw [show (8 : Int32) = nI 8 from rfl, pk_mul, show (0 : Int32) = nI 0 from rfl, k_fill (by omega) (by omega)]
  have hh : ∃ x, Wh (fun z : Mm × Int32 => f_X4_weigh_L25 sh ln j (nI q) z.1 z.2) (mrow a0 (12, 1) (fun i => if i < N * 8 then nI 0 else a0 (12, 1) i), nI 0) = some x ∧
      ∃ R, x = mrow a0 (12, 1) R ∧ ∀ i, i < N * 8 → R i = nI (poss (lf r) (key8 r (cmm r Λo V n N p q) q) (fig V n q) N i) := by
    refine Wh_inv1 N (fun k s => ∃ R, s = (mrow a0 (12, 1) R, nI k) ∧ ∀ i, i < N * 8 → R i = nI (poss (lf r) (key8 r (cmm r Λo V n N p q) q) (fig V n q) k i)) _ ⟨_, rfl, fun i hi => by rw [if_pos hi, poss_0]⟩ ?_ ?_
    · rintro k _ hk ⟨R, rfl, hR⟩
      have h' := h0.rowS (a := 12) (b := 1) R (by omega) (by omega)
      by_cases c : lf r k = true
      · have hl := (h.1.hb hq hk).2
        have hf := fig_lt hb.1 n q k
        have h8 : cmm r Λo V n N p q k < 8 := cmm_lt ⟨hb.1, hb.2.1⟩
        have hkk : key8 r (cmm r Λo V n N p q) q k < N * 8 := by unfold key8; omega
        have ekk : nI (lab r q k) * nI 8 + nI (cmm r Λo V n N p q k) = nI (key8 r (cmm r Λo V n N p q) q k) := by
          rw [pk_mul, nI_add]; unfold key8; rw [Nat.mul_comm]
        have e3 : f_X1_at sh ln 3 (mrow a0 (12, 1) R) (nI k) = some (nI (cmm r Λo V n N p q k)) := by rw [k_at (by omega) (by omega), mrow_neB (by omega), hC k hk]
        have e4 : f_X1_addBits sh ln 1 (mrow a0 (12, 1) R) (nI (key8 r (cmm r Λo V n N p q) q k)) (nI (2 ^ fig V n q k)) = some (mrow a0 (12, 1) (upd R (key8 r (cmm r Λo V n N p q) q k) (nI (poss (lf r) (key8 r (cmm r Λo V n N p q) q) (fig V n q) k (key8 r (cmm r Λo V n N p q) q k) ||| 2 ^ fig V n q k)))) := by
          rw [k_addBits (by omega) (by omega), mrow_self, mrow_mrow, hR _ hkk, q_or]
        refine ⟨(mrow a0 (12, 1) (upd R (key8 r (cmm r Λo V n N p q) q k) (nI (poss (lf r) (key8 r (cmm r Λo V n N p q) q) (fig V n q) k (key8 r (cmm r Λo V n N p q) q k) ||| 2 ^ fig V n q k))), nI (k + 1)), ?_, _, rfl, fun i hi => ?_⟩
        · show f_X4_weigh_L25 sh ln j (nI q) (mrow a0 (12, 1) R) (nI k) = _
          have es := k_stands (sh := sh) h' hk
          rw [c] at es
          have e5 : nI 1 <<< (nI (fig V n q k) &&& nI 31) = nI (2 ^ fig V n q k) := q_shl1' _ (by omega)
          rw [f_X4_weigh_L25, h'.c2, if_neg (by rw [q_le (by omega) (by omega)]; omega), es, Option.bind_some, if_neg (by decide), k_group h' hq hk, Option.bind_some, e3, Option.bind_some, k_figure h' hq hk, Option.bind_some]
          rw [show (8 : Int32) = nI 8 from rfl, ekk, show (1 : Int32) = nI 1 from rfl, show (31 : Int32) = nI 31 from rfl, e5, e4, Option.bind_some, nI_add]
        · rw [q_upd, poss_s]
          by_cases e : i = key8 r (cmm r Λo V n N p q) q k
          · subst e; simp [c]
          · simp [e, Ne.symm e, hR i hi]
      · have c' := Bool.not_eq_true _ ▸ c
        refine ⟨(mrow a0 (12, 1) R, nI (k + 1)), ?_, R, rfl, fun i hi => ?_⟩
        · show f_X4_weigh_L25 sh ln j (nI q) (mrow a0 (12, 1) R) (nI k) = _
          simp (disch := omega) only [Option.bind_some, Option.map_some, Option.bind_none, q_lit, nI_add, pk_mul, q_sub, q_addn, q_cl, q_le, q_lt, q_eq, q_ck, q_cd, q_cb0, q_cb1, q_div, q_rem, q_shl1, q_shr, q_and, q_or, q_tb, if_pos, if_neg, if_true, if_false, not_true, not_false_iff, eq_self, Bool.true_eq_false, Bool.false_eq_true, q_bI0, q_bI1, q_cbI, Nat.or_zero, mst_row, mrow_neA, mrow_neB, mrow_self, q_upd, f_X4_weigh_L25, h'.c2, k_stands h' hk, c', bI_f]
        · rw [poss_s, hR i hi]; simp [c']
    · rintro _ ⟨R, rfl, hR⟩
      have h' := h0.rowS (a := 12) (b := 1) R (by omega) (by omega)
      refine ⟨_, ?_, R, rfl, hR⟩
      show f_X4_weigh_L25 sh ln j (nI q) (mrow a0 (12, 1) R) (nI N) = _
      simp (disch := omega) only [Option.bind_some, Option.map_some, Option.bind_none, q_lit, nI_add, pk_mul, q_sub, q_addn, q_cl, q_le, q_lt, q_eq, q_ck, q_cd, q_cb0, q_cb1, q_div, q_rem, q_shl1, q_shr, q_and, q_or, q_tb, if_pos, if_neg, if_true, if_false, not_true, not_false_iff, eq_self, Bool.true_eq_false, Bool.false_eq_true, q_bI0, q_bI1, q_cbI, Nat.or_zero, mst_row, mrow_neA, mrow_neB, mrow_self, q_upd, f_X4_weigh_L25, h'.c2, Nat.le_refl]
  obtain ⟨_, e2, R, rfl, hR⟩ := hh
  refine ⟨mrow a0 (12, 1) R, ?_, (hF0.mono (fun c hc => by omega)).mr (by omega), fun w hw => by rw [mrow_neB (by omega)]; exact hC w hw, fun i hi => by rw [mrow_self]; exact hR i hi⟩
  rw [f_X4_weigh, e0, Option.bind_some, h0.c2, e1, Option.bind_some]
  exact e2
theorem k_weighed (h : CS ln μ j V n N w0 r) (hL : LN ln) {p q w : Nat} (hq : q < n) (hw : w < N) (hC : ∀ w, w < N → μ (12, 3) w = nI (cmm r Λo V n N p q w)) (hT : ∀ i, i < N * 8 → μ (12, 1) i = nI (poss (lf r) (key8 r (cmm r Λo V n N p q) q) (fig V n q) N i)) :
    ∃ m, f_X4_weighed sh ln j μ (nI q) (nI w) = some (nI m) ∧ m < 512 ∧ sur m = wgt r Λo V n N p q w := by
  have hb := h.1.b
  have hl1 : ln 1 = 4096 := hL.2.1
  have hl3 : ln 3 = 512 := hL.2.2.2.1
  have hl := (h.1.hb hq hw).2
  have h8 : cmm r Λo V n N p q w < 8 := cmm_lt ⟨hb.1, hb.2.1⟩
  have hkk : key8 r (cmm r Λo V n N p q) q w < N * 8 := by unfold key8; omega
  have ekk : nI (lab r q w) * nI 8 + nI (cmm r Λo V n N p q w) = nI (key8 r (cmm r Λo V n N p q) q w) := by
    rw [pk_mul, nI_add]; unfold key8; rw [Nat.mul_comm]
  have h16 : poss (lf r) (key8 r (cmm r Λo V n N p q) q) (fig V n q) N (key8 r (cmm r Λo V n N p q) q w) < 16 := poss_16 ⟨hb.1, hb.2.1⟩
  refine ⟨_, ?_, by omega, rfl⟩
  rw [f_X4_weighed, k_group h hq hw, Option.bind_some, k_at (by omega) (by omega), Option.bind_some, hC w hw, show (8 : Int32) = nI 8 from rfl, ekk, k_at (by omega) (by omega), Option.bind_some, hT _ hkk]
theorem k_makes (h : CS ln μ j V n N w0 r) (hL : LN ln) {p q : Nat} (hq : q < n) (hC : ∀ w, w < N → μ (12, 3) w = nI (cmm r Λo V n N p q w)) (hT : ∀ i, i < N * 8 → μ (12, 1) i = nI (poss (lf r) (key8 r (cmm r Λo V n N p q) q) (fig V n q) N i)) :
    ∃ R, f_X4_makesSureSomewhere sh ln j μ (nI q) = some (bI (mks r Λo V n N p q N), mrow μ (12, 2) R) := by
  have hb := h.1.b
  obtain ⟨R, e0, hR⟩ := k_spot (sh := sh) h hL h.stl (by omega) h.stay hq hq
  have h' := h.rowS (a := 12) (b := 2) R (by omega) (by omega)
  have hh : ∃ x, Wh (fun z : Int32 => f_X4_makesSureSomewhere_L13 sh ln j (nI q) (mrow μ (12, 2) R) z) (nI 0) = some x ∧ x = (bI (mks r Λo V n N p q N), mrow μ (12, 2) R) := by
    refine Wh_inv N (fun k s => s = nI k ∧ mks r Λo V n N p q k = false) _ ⟨rfl, rfl⟩ ?_ ?_
    · rintro k _ hk ⟨rfl, hm⟩
      have em : mks r Λo V n N p q (k + 1) = (mks r Λo V n N p q k || ((lf r k && !suR r V n N q k) && wgt r Λo V n N p q k)) := rfl
      rw [em, hm]
      cases d1 : lf r k
      · refine Or.inl ⟨nI (k + 1), ?_, rfl, by simp⟩
        show f_X4_makesSureSomewhere_L13 sh ln j (nI q) (mrow μ (12, 2) R) (nI k) = _
        simp (disch := omega) only [Option.bind_some, Option.map_some, Option.bind_none, q_lit, nI_add, pk_mul, q_sub, q_addn, q_cl, q_le, q_lt, q_eq, q_ck, q_cd, q_cb0, q_cb1, q_div, q_rem, q_shl1, q_shr, q_and, q_or, q_tb, if_pos, if_neg, if_true, if_false, not_true, not_false_iff, eq_self, Bool.true_eq_false, Bool.false_eq_true, q_bI0, q_bI1, q_cbI, Nat.or_zero, mst_row, mrow_neA, mrow_neB, mrow_self, q_upd, f_X4_makesSureSomewhere_L13, h'.c2, k_stands h' hk, d1, bI_f]
      · have hl := (h.1.hb hq hk).2
        have h16 : poss (lf r) (lab r q) (fig V n q) N (lab r q k) < 16 := poss_16 ⟨hb.1, hb.2.1⟩
        have e2 : f_X4_spotted sh ln j (mrow μ (12, 2) R) (nI q) (nI k) = some (nI (poss (lf r) (lab r q) (fig V n q) N (lab r q k))) := by
          rw [k_spotted h' hL hq hk, mrow_self, hR _ hl]
        have hm1 := oo_m1 (show poss (lf r) (lab r q) (fig V n q) N (lab r q k) < 512 by omega)
        have hsd : sur (poss (lf r) (lab r q) (fig V n q) N (lab r q k)) = suR r V n N q k := rfl
        obtain ⟨m, e3, hm2, hm3⟩ := k_weighed (sh := sh) h' hL hq hk (fun w hw => by rw [mrow_neB (by omega)]; exact hC w hw) (fun i hi => by rw [mrow_neB (by omega)]; exact hT i hi)
        have hmm := oo_m1 hm2
        rw [hm3] at hmm
        rw [hsd] at hm1
        cases d2 : suR r V n N q k
        · rw [d2] at hm1
          cases d3 : wgt r Λo V n N p q k
          · rw [d3] at hmm
            refine Or.inl ⟨nI (k + 1), ?_, rfl, by simp⟩
            show f_X4_makesSureSomewhere_L13 sh ln j (nI q) (mrow μ (12, 2) R) (nI k) = _
            simp (disch := omega) only [Option.bind_some, Option.map_some, Option.bind_none, q_lit, nI_add, pk_mul, q_sub, q_addn, q_cl, q_le, q_lt, q_eq, q_ck, q_cd, q_cb0, q_cb1, q_div, q_rem, q_shl1, q_shr, q_and, q_or, q_tb, if_pos, if_neg, if_true, if_false, not_true, not_false_iff, eq_self, Bool.true_eq_false, Bool.false_eq_true, q_bI0, q_bI1, q_cbI, Nat.or_zero, mst_row, mrow_neA, mrow_neB, mrow_self, q_upd, f_X4_makesSureSomewhere_L13, h'.c2, k_stands h' hk, d1, e2, k_onlyOne (show poss (lf r) (lab r q) (fig V n q) N (lab r q k) < 512 by omega), hm1, e3, k_onlyOne hm2, hmm, bI_t]
          · rw [d3] at hmm
            have d4 : mks r Λo V n N p q N = true := anyN_iff.mpr ⟨k, hk, by rw [d1, d2, d3]; rfl⟩
            refine Or.inr ⟨_, ?_, rfl⟩
            show f_X4_makesSureSomewhere_L13 sh ln j (nI q) (mrow μ (12, 2) R) (nI k) = _
            rw [d4]
            simp (disch := omega) only [Option.bind_some, Option.map_some, Option.bind_none, q_lit, nI_add, pk_mul, q_sub, q_addn, q_cl, q_le, q_lt, q_eq, q_ck, q_cd, q_cb0, q_cb1, q_div, q_rem, q_shl1, q_shr, q_and, q_or, q_tb, if_pos, if_neg, if_true, if_false, not_true, not_false_iff, eq_self, Bool.true_eq_false, Bool.false_eq_true, q_bI0, q_bI1, q_cbI, Nat.or_zero, mst_row, mrow_neA, mrow_neB, mrow_self, q_upd, f_X4_makesSureSomewhere_L13, h'.c2, k_stands h' hk, d1, e2, k_onlyOne (show poss (lf r) (lab r q) (fig V n q) N (lab r q k) < 512 by omega), hm1, e3, k_onlyOne hm2, hmm, bI_t]
        · rw [d2] at hm1
          refine Or.inl ⟨nI (k + 1), ?_, rfl, by simp⟩
          show f_X4_makesSureSomewhere_L13 sh ln j (nI q) (mrow μ (12, 2) R) (nI k) = _
          simp (disch := omega) only [Option.bind_some, Option.map_some, Option.bind_none, q_lit, nI_add, pk_mul, q_sub, q_addn, q_cl, q_le, q_lt, q_eq, q_ck, q_cd, q_cb0, q_cb1, q_div, q_rem, q_shl1, q_shr, q_and, q_or, q_tb, if_pos, if_neg, if_true, if_false, not_true, not_false_iff, eq_self, Bool.true_eq_false, Bool.false_eq_true, q_bI0, q_bI1, q_cbI, Nat.or_zero, mst_row, mrow_neA, mrow_neB, mrow_self, q_upd, f_X4_makesSureSomewhere_L13, h'.c2, k_stands h' hk, d1, e2, k_onlyOne (show poss (lf r) (lab r q) (fig V n q) N (lab r q k) < 512 by omega), hm1, bI_t]
    · rintro _ ⟨rfl, hm⟩
      refine ⟨_, ?_, rfl⟩
      show f_X4_makesSureSomewhere_L13 sh ln j (nI q) (mrow μ (12, 2) R) (nI N) = _
      rw [hm]
      simp (disch := omega) only [Option.bind_some, Option.map_some, Option.bind_none, q_lit, nI_add, pk_mul, q_sub, q_addn, q_cl, q_le, q_lt, q_eq, q_ck, q_cd, q_cb0, q_cb1, q_div, q_rem, q_shl1, q_shr, q_and, q_or, q_tb, if_pos, if_neg, if_true, if_false, not_true, not_false_iff, eq_self, Bool.true_eq_false, Bool.false_eq_true, q_bI0, q_bI1, q_cbI, Nat.or_zero, mst_row, mrow_neA, mrow_neB, mrow_self, q_upd, f_X4_makesSureSomewhere_L13, h'.c2, Nat.le_refl, bI_f]
  obtain ⟨_, e, rfl⟩ := hh
  refine ⟨R, ?_⟩
  rw [f_X4_makesSureSomewhere, e0, Option.bind_some]
  exact e
theorem k_gives (h : CS ln μ j V n N w0 r) (hL : LN ln) (hK : LRk sh μ j Λo) (hd : μ (13, j) 4 = r 4) {q : Nat} (hq : q < n) :
    ∃ a, f_X4_whoGivesAway sh ln j μ (nI q) = some (nI (gvs r Λo V n N w0 q n), a) ∧ FrC (fun c => 1 ≤ c ∧ c < 10) μ a := by
  have hb := h.1.b
  have hh : ∃ x, f_X4_whoGivesAway sh ln j μ (nI q) = some x ∧ ∃ a, x = (nI (gvs r Λo V n N w0 q n), a) ∧ FrC (fun c => 1 ≤ c ∧ c < 10) μ a := by
    unfold f_X4_whoGivesAway
    refine Wh_inv1 n (fun k s => ∃ a, s = (a, nI (gvs r Λo V n N w0 q k), nI k) ∧ FrC (fun c => 1 ≤ c ∧ c < 10) μ a) _ ⟨μ, rfl, FrC.rf⟩ ?_ ?_
    · rintro k _ hk ⟨a, rfl, hF⟩
      have ha : CS ln a j V n N w0 r := h.scr (hF.mono (fun c hc => by omega))
      have h5 := gvs_512 (r := r) (Λo := Λo) (V := V) (n := n) (N := N) (w0 := w0) (q := q) (m := k) (by omega)
      have es : gvs r Λo V n N w0 q (k + 1) = gvs r Λo V n N w0 q k ||| (if (¬ k = q ∧ (se r k).testBit q = true) ∧ wgt r Λo V n N k q w0 = true then 2 ^ k else 0) := rfl
      by_cases c1 : k = q
      · refine ⟨(a, nI (gvs r Λo V n N w0 q (k + 1)), nI (k + 1)), ?_, a, rfl, hF⟩
        show f_X4_whoGivesAway_L5 sh ln j (nI q) a (nI (gvs r Λo V n N w0 q k)) (nI k) = _
        rw [es, if_neg (fun e => e.1.1 c1), Nat.or_zero]
        simp (disch := omega) only [Option.bind_some, Option.map_some, Option.bind_none, q_lit, nI_add, pk_mul, q_sub, q_addn, q_cl, q_le, q_lt, q_eq, q_ck, q_cd, q_cb0, q_cb1, q_div, q_rem, q_shl1, q_shr, q_and, q_or, q_tb, if_pos, if_neg, if_true, if_false, not_true, not_false_iff, eq_self, Bool.true_eq_false, Bool.false_eq_true, q_bI0, q_bI1, q_cbI, Nat.or_zero, mst_row, mrow_neA, mrow_neB, mrow_self, q_upd, f_X4_whoGivesAway_L5, ha.c1, c1]
      · by_cases c2 : (se r k).testBit q = true
        · obtain ⟨a2, e1, hF2, hC, hT⟩ := k_weigh (sh := sh) ha hL (hK.fr hF) (by rw [hF.st (by omega)]; exact hd) hk hq
          have ha2 : CS ln a2 j V n N w0 r := ha.scr (hF2.mono (fun c hc => by omega))
          obtain ⟨m, e3, hm2, hm3⟩ := k_weighed (sh := sh) ha2 hL hq hb.2.2.2.2.2 hC hT
          have hmm := oo_m1 hm2
          rw [hm3] at hmm
          refine ⟨(a2, nI (gvs r Λo V n N w0 q (k + 1)), nI (k + 1)), ?_, a2, rfl, hF.tr hF2⟩
          show f_X4_whoGivesAway_L5 sh ln j (nI q) a (nI (gvs r Λo V n N w0 q k)) (nI k) = _
          cases c3 : wgt r Λo V n N k q w0
          · rw [c3] at hmm
            rw [es, if_neg (fun e => by rw [c3] at e; exact absurd e.2 (by decide))]
            simp (disch := omega) only [Option.bind_some, Option.map_some, Option.bind_none, q_lit, nI_add, pk_mul, q_sub, q_addn, q_cl, q_le, q_lt, q_eq, q_ck, q_cd, q_cb0, q_cb1, q_div, q_rem, q_shl1, q_shr, q_and, q_or, q_tb, if_pos, if_neg, if_true, if_false, not_true, not_false_iff, eq_self, Bool.true_eq_false, Bool.false_eq_true, q_bI0, q_bI1, q_cbI, Nat.or_zero, mst_row, mrow_neA, mrow_neB, mrow_self, q_upd, f_X4_whoGivesAway_L5, ha.c1, c1, k_hasSight ha hk hq, c2, e1, ha2.c3, e3, k_onlyOne hm2, hmm, bI_t, bI_f]
          · rw [c3] at hmm
            rw [es, if_pos ⟨⟨c1, c2⟩, c3⟩]
            simp (disch := omega) only [Option.bind_some, Option.map_some, Option.bind_none, q_lit, nI_add, pk_mul, q_sub, q_addn, q_cl, q_le, q_lt, q_eq, q_ck, q_cd, q_cb0, q_cb1, q_div, q_rem, q_shl1, q_shr, q_and, q_or, q_tb, if_pos, if_neg, if_true, if_false, not_true, not_false_iff, eq_self, Bool.true_eq_false, Bool.false_eq_true, q_bI0, q_bI1, q_cbI, Nat.or_zero, mst_row, mrow_neA, mrow_neB, mrow_self, q_upd, f_X4_whoGivesAway_L5, ha.c1, c1, k_hasSight ha hk hq, c2, e1, ha2.c3, e3, k_onlyOne hm2, hmm, bI_t, bI_f]
        · have c2' := Bool.not_eq_true _ ▸ c2
          refine ⟨(a, nI (gvs r Λo V n N w0 q (k + 1)), nI (k + 1)), ?_, a, rfl, hF⟩
          show f_X4_whoGivesAway_L5 sh ln j (nI q) a (nI (gvs r Λo V n N w0 q k)) (nI k) = _
          rw [es, if_neg (fun e => c2 e.1.2), Nat.or_zero]
          simp (disch := omega) only [Option.bind_some, Option.map_some, Option.bind_none, q_lit, nI_add, pk_mul, q_sub, q_addn, q_cl, q_le, q_lt, q_eq, q_ck, q_cd, q_cb0, q_cb1, q_div, q_rem, q_shl1, q_shr, q_and, q_or, q_tb, if_pos, if_neg, if_true, if_false, not_true, not_false_iff, eq_self, Bool.true_eq_false, Bool.false_eq_true, q_bI0, q_bI1, q_cbI, Nat.or_zero, mst_row, mrow_neA, mrow_neB, mrow_self, q_upd, f_X4_whoGivesAway_L5, ha.c1, c1, k_hasSight ha hk hq, c2', bI_f]
    · rintro _ ⟨a, rfl, hF⟩
      have ha : CS ln a j V n N w0 r := h.scr (hF.mono (fun c hc => by omega))
      refine ⟨_, ?_, a, rfl, hF⟩
      show f_X4_whoGivesAway_L5 sh ln j (nI q) a (nI (gvs r Λo V n N w0 q n)) (nI n) = _
      simp (disch := omega) only [Option.bind_some, Option.map_some, Option.bind_none, q_lit, nI_add, pk_mul, q_sub, q_addn, q_cl, q_le, q_lt, q_eq, q_ck, q_cd, q_cb0, q_cb1, q_div, q_rem, q_shl1, q_shr, q_and, q_or, q_tb, if_pos, if_neg, if_true, if_false, not_true, not_false_iff, eq_self, Bool.true_eq_false, Bool.false_eq_true, q_bI0, q_bI1, q_cbI, Nat.or_zero, mst_row, mrow_neA, mrow_neB, mrow_self, q_upd, f_X4_whoGivesAway_L5, ha.c1, Nat.le_refl]
  obtain ⟨_, e, a, rfl, hF⟩ := hh
  exact ⟨a, e, hF⟩
theorem k_never (h : CS ln μ j V n N w0 r) (hL : LN ln) (hK : LRk sh μ j Λo) (hd : μ (13, j) 4 = r 4) {q : Nat} (hq : q < n) :
    ∃ a, f_X4_whoNeverGivesAway sh ln j μ (nI q) = some (nI (nvs r Λo V n N q n), a) ∧ FrC (fun c => 1 ≤ c ∧ c < 10) μ a := by
  have hb := h.1.b
  have hh : ∃ x, f_X4_whoNeverGivesAway sh ln j μ (nI q) = some x ∧ ∃ a, x = (nI (nvs r Λo V n N q n), a) ∧ FrC (fun c => 1 ≤ c ∧ c < 10) μ a := by
    unfold f_X4_whoNeverGivesAway
    refine Wh_inv1 n (fun k s => ∃ a, s = (a, nI (nvs r Λo V n N q k), nI k) ∧ FrC (fun c => 1 ≤ c ∧ c < 10) μ a) _ ⟨μ, rfl, FrC.rf⟩ ?_ ?_
    · rintro k _ hk ⟨a, rfl, hF⟩
      have ha : CS ln a j V n N w0 r := h.scr (hF.mono (fun c hc => by omega))
      have h5 := nvs_512 (r := r) (Λo := Λo) (V := V) (n := n) (N := N) (q := q) (m := k) (by omega)
      have es : nvs r Λo V n N q (k + 1) = nvs r Λo V n N q k ||| (if (¬ k = q ∧ (se r k).testBit q = true) ∧ mks r Λo V n N k q N = false then 2 ^ k else 0) := rfl
      by_cases c1 : k = q
      · refine ⟨(a, nI (nvs r Λo V n N q (k + 1)), nI (k + 1)), ?_, a, rfl, hF⟩
        show f_X4_whoNeverGivesAway_L5 sh ln j (nI q) a (nI (nvs r Λo V n N q k)) (nI k) = _
        rw [es, if_neg (fun e => e.1.1 c1), Nat.or_zero]
        simp (disch := omega) only [Option.bind_some, Option.map_some, Option.bind_none, q_lit, nI_add, pk_mul, q_sub, q_addn, q_cl, q_le, q_lt, q_eq, q_ck, q_cd, q_cb0, q_cb1, q_div, q_rem, q_shl1, q_shr, q_and, q_or, q_tb, if_pos, if_neg, if_true, if_false, not_true, not_false_iff, eq_self, Bool.true_eq_false, Bool.false_eq_true, q_bI0, q_bI1, q_cbI, Nat.or_zero, mst_row, mrow_neA, mrow_neB, mrow_self, q_upd, f_X4_whoNeverGivesAway_L5, ha.c1, c1]
      · by_cases c2 : (se r k).testBit q = true
        · obtain ⟨a2, e1, hF2, hC, hT⟩ := k_weigh (sh := sh) ha hL (hK.fr hF) (by rw [hF.st (by omega)]; exact hd) hk hq
          have ha2 : CS ln a2 j V n N w0 r := ha.scr (hF2.mono (fun c hc => by omega))
          obtain ⟨R, e3⟩ := k_makes (sh := sh) ha2 hL hq hC hT
          refine ⟨(mrow a2 (12, 2) R, nI (nvs r Λo V n N q (k + 1)), nI (k + 1)), ?_, _, rfl, (hF.tr hF2).mr (by omega)⟩
          show f_X4_whoNeverGivesAway_L5 sh ln j (nI q) a (nI (nvs r Λo V n N q k)) (nI k) = _
          cases c3 : mks r Λo V n N k q N
          · rw [c3] at e3
            rw [es, if_pos ⟨⟨c1, c2⟩, c3⟩]
            simp (disch := omega) only [Option.bind_some, Option.map_some, Option.bind_none, q_lit, nI_add, pk_mul, q_sub, q_addn, q_cl, q_le, q_lt, q_eq, q_ck, q_cd, q_cb0, q_cb1, q_div, q_rem, q_shl1, q_shr, q_and, q_or, q_tb, if_pos, if_neg, if_true, if_false, not_true, not_false_iff, eq_self, Bool.true_eq_false, Bool.false_eq_true, q_bI0, q_bI1, q_cbI, Nat.or_zero, mst_row, mrow_neA, mrow_neB, mrow_self, q_upd, f_X4_whoNeverGivesAway_L5, ha.c1, c1, k_hasSight ha hk hq, c2, e1, e3, bI_t, bI_f]
          · rw [c3] at e3
            rw [es, if_neg (fun e => by rw [c3] at e; exact absurd e.2 (by decide))]
            simp (disch := omega) only [Option.bind_some, Option.map_some, Option.bind_none, q_lit, nI_add, pk_mul, q_sub, q_addn, q_cl, q_le, q_lt, q_eq, q_ck, q_cd, q_cb0, q_cb1, q_div, q_rem, q_shl1, q_shr, q_and, q_or, q_tb, if_pos, if_neg, if_true, if_false, not_true, not_false_iff, eq_self, Bool.true_eq_false, Bool.false_eq_true, q_bI0, q_bI1, q_cbI, Nat.or_zero, mst_row, mrow_neA, mrow_neB, mrow_self, q_upd, f_X4_whoNeverGivesAway_L5, ha.c1, c1, k_hasSight ha hk hq, c2, e1, e3, bI_t, bI_f]
        · have c2' := Bool.not_eq_true _ ▸ c2
          refine ⟨(a, nI (nvs r Λo V n N q (k + 1)), nI (k + 1)), ?_, a, rfl, hF⟩
          show f_X4_whoNeverGivesAway_L5 sh ln j (nI q) a (nI (nvs r Λo V n N q k)) (nI k) = _
          rw [es, if_neg (fun e => c2 e.1.2), Nat.or_zero]
          simp (disch := omega) only [Option.bind_some, Option.map_some, Option.bind_none, q_lit, nI_add, pk_mul, q_sub, q_addn, q_cl, q_le, q_lt, q_eq, q_ck, q_cd, q_cb0, q_cb1, q_div, q_rem, q_shl1, q_shr, q_and, q_or, q_tb, if_pos, if_neg, if_true, if_false, not_true, not_false_iff, eq_self, Bool.true_eq_false, Bool.false_eq_true, q_bI0, q_bI1, q_cbI, Nat.or_zero, mst_row, mrow_neA, mrow_neB, mrow_self, q_upd, f_X4_whoNeverGivesAway_L5, ha.c1, c1, k_hasSight ha hk hq, c2', bI_f]
    · rintro _ ⟨a, rfl, hF⟩
      have ha : CS ln a j V n N w0 r := h.scr (hF.mono (fun c hc => by omega))
      refine ⟨_, ?_, a, rfl, hF⟩
      show f_X4_whoNeverGivesAway_L5 sh ln j (nI q) a (nI (nvs r Λo V n N q n)) (nI n) = _
      simp (disch := omega) only [Option.bind_some, Option.map_some, Option.bind_none, q_lit, nI_add, pk_mul, q_sub, q_addn, q_cl, q_le, q_lt, q_eq, q_ck, q_cd, q_cb0, q_cb1, q_div, q_rem, q_shl1, q_shr, q_and, q_or, q_tb, if_pos, if_neg, if_true, if_false, not_true, not_false_iff, eq_self, Bool.true_eq_false, Bool.false_eq_true, q_bI0, q_bI1, q_cbI, Nat.or_zero, mst_row, mrow_neA, mrow_neB, mrow_self, q_upd, f_X4_whoNeverGivesAway_L5, ha.c1, Nat.le_refl]
  obtain ⟨_, e, a, rfl, hF⟩ := hh
  exact ⟨a, e, hF⟩
end GIVK
