-- the manners of one to another one in the worlds that are left: the reference
theorem RS.fr {S : List Nat} {μ a : Mm} {V n N w0 : Nat} {r : Nat → Int32} (h : RS μ V n N w0 r) (hF : Fr S μ a) (h1 : 1 ∉ S) : RS a V n N w0 r := ⟨by rw [hF 1 h1]; exact h.1, h.2⟩
/-- the least cause with the same manner -/
def alk (m : Nat → Int32) (c : Nat) : Nat := match fstN c (fun i => decide (m i = m c)) with
  | none => c
  | some k => k
theorem alk_spec (m : Nat → Int32) (c : Nat) : alk m c ≤ c ∧ m (alk m c) = m c ∧ ∀ i, i < alk m c → ¬ m i = m c := by
  unfold alk
  rcases fstN_spec (m := c) (f := fun i => decide (m i = m c)) with ⟨e, h⟩ | ⟨k, e, h1, h2, h3⟩
  · rw [e]; exact ⟨Nat.le_refl _, rfl, fun i hi => of_decide_eq_false (h i hi)⟩
  · rw [e]; exact ⟨Nat.le_of_lt h1, of_decide_eq_true h2, fun i hi => of_decide_eq_false (h3 i hi)⟩
theorem alk_congr {m m' : Nat → Int32} {c : Nat} (h : ∀ i, i ≤ c → m i = m' i) : alk m c = alk m' c := by
  unfold alk
  rw [fstN_congr (g := fun i => decide (m' i = m' c)) (fun i hi => by rw [h i (by omega), h c (Nat.le_refl _)])]
/-- the manner by a cause -/
def mnn (r : Nat → Int32) (Λo : Option LW) (p q : Nat) (c : Nat) : Int32 := MB Λo (evF r p q (c / 2) (decide (c % 2 = 1)))
/-- the cause of p towards q in w -/
def cau (r : Nat → Int32) (V n N p q w : Nat) : Nat := 2 * fig V n q w + (if suR r V n N p w = true then 1 else 0)
def cmm (r : Nat → Int32) (Λo : Option LW) (V n N p q w : Nat) : Nat := alk (mnn r Λo p q) (cau r V n N p q w)
theorem cau_lt {r : Nat → Int32} {V n N p q w : Nat} (hV : 2 ≤ V ∧ V ≤ 4) : cau r V n N p q w < 2 * V := by
  have h1 := fig_lt hV.1 n q w
  unfold cau
  split <;> omega
theorem cmm_lt {r : Nat → Int32} {Λo : Option LW} {V n N p q w : Nat} (hV : 2 ≤ V ∧ V ≤ 4) : cmm r Λo V n N p q w < 8 := by
  have h1 := cau_lt (r := r) (n := n) (N := N) (p := p) (q := q) (w := w) hV
  have h2 := (alk_spec (mnn r Λo p q) (cau r V n N p q w)).1
  unfold cmm
  omega
theorem mnn_cau {r : Nat → Int32} {Λo : Option LW} {V n N p q w : Nat} : mnn r Λo p q (cau r V n N p q w) = MB Λo (evF r p q (fig V n q w) (suR r V n N p w)) := by
  unfold mnn cau
  cases suR r V n N p w
  · rw [if_neg (by decide), show (2 * fig V n q w + 0) / 2 = fig V n q w by omega, show decide ((2 * fig V n q w + 0) % 2 = 1) = false from decide_eq_false (by omega)]
  · rw [if_pos rfl, show (2 * fig V n q w + 1) / 2 = fig V n q w by omega, show decide ((2 * fig V n q w + 1) % 2 = 1) = true from decide_eq_true (by omega)]
theorem mnn_cmm {r : Nat → Int32} {Λo : Option LW} {V n N p q w : Nat} : mnn r Λo p q (cmm r Λo V n N p q w) = MB Λo (evF r p q (fig V n q w) (suR r V n N p w)) := by
  unfold cmm
  rw [(alk_spec (mnn r Λo p q) (cau r V n N p q w)).2.1, mnn_cau]
section MEETQ
variable {μ : Mm} {V n N w0 : Nat} {r : Nat → Int32} {Λo : Option LW}
theorem q_mannerIn (h : RS μ V n N w0 r) (hRL : LRw r Λo) {p q w : Nat} (hp : p < n) (hq : q < n) (hw : w < N) (hl : lf r w = true) : ∃ μ', f_X11_mannerIn μ (nI p) (nI q) (nI w) = some (mnn r Λo p q (cmm r Λo V n N p q w), μ') ∧ Fr [8, 22] μ μ' := by
  have hb := h.2.b
  have hf := fig_lt hb.1 n q w
  obtain ⟨R, e1⟩ := q_isSure h hp hw hl
  obtain ⟨R', e2⟩ := q_mannerBy (h.row (a := 8) (b := 0) R (by omega)) hRL (th := fig V n q w) (su := suR r V n N p w) hp hq (by omega)
  refine ⟨mrow (mrow μ (8, 0) R) (22, 0) R', ?_, (by repeat first | exact Fr.rf | refine Fr.mr ?_ (by decide))⟩
  rw [mnn_cmm]
  simp (disch := omega) only [Option.bind_some, Option.map_some, Option.bind_none, q_lit, nI_add, pk_mul, q_sub, q_addn, q_cl, q_le, q_lt, q_eq, q_ck, q_cd, q_cb0, q_cb1, q_div, q_rem, q_shl1, q_shr, q_and, q_or, q_tb, if_pos, if_neg, if_true, if_false, not_true, not_false_iff, eq_self, Bool.true_eq_false, Bool.false_eq_true, q_bI0, q_bI1, q_cbI, Nat.or_zero, mst_row, mrow_neA, mrow_neB, mrow_self, q_upd, f_X11_mannerIn, q_noticeIn h hq hw, e1, e2]
/-- one cause is told -/
theorem q_causeComes (h : RS μ V n N w0 r) (hRL : LRw r Λo) {p q c : Nat} (hp : p < n) (hq : q < n) (hc : c < 8) (hM : ∀ i, i < c → μ (23, 0) i = mnn r Λo p q i) :
    ∃ a, f_X11_mannersCome_J35 μ (nI p) (nI q) (nI c) (bI (decide (c % 2 = 1))) (nI (c / 2)) (nI q) (nI p) (nI c) = some (.inl (a, nI (c + 1))) ∧ Fr [22, 23, 24] μ a ∧ a (23, 0) = upd (μ (23, 0)) c (mnn r Λo p q c) ∧ a (24, 0) = upd (μ (24, 0)) c (nI (alk (mnn r Λo p q) c)) := by
  obtain ⟨R, e1⟩ := q_mannerBy h hRL (th := c / 2) (su := decide (c % 2 = 1)) hp hq (by omega)
  obtain ⟨M, hMM⟩ : ∃ M, M = upd (μ (23, 0)) c (mnn r Λo p q c) := ⟨_, rfl⟩
  have hMi : ∀ i, i ≤ c → M i = mnn r Λo p q i := fun i hi => by
    rw [hMM, q_upd]
    by_cases e : i = c
    · rw [if_pos e, e]
    · rw [if_neg e]; exact hM i (by omega)
  obtain ⟨k1, k2, k3⟩ := alk_spec (mnn r Λo p q) c
  have e2 : Wh (fun z : Mm => f_X11_mannersCome_L46 (nI p) (nI q) (nI c) z) (mrow (mrow (mrow μ (22, 0) R) (23, 0) M) (24, 0) (upd (μ (24, 0)) c (nI 0))) = some (.inl (mrow (mrow (mrow μ (22, 0) R) (23, 0) M) (24, 0) (upd (μ (24, 0)) c (nI (alk (mnn r Λo p q) c))), nI (c + 1))) := by
    refine Wh_it (alk (mnn r Λo p q) c) (fun i => mrow (mrow (mrow μ (22, 0) R) (23, 0) M) (24, 0) (upd (μ (24, 0)) c (nI i))) rfl (fun i hi => ?_) ?_
    · show f_X11_mannersCome_L46 (nI p) (nI q) (nI c) (mrow (mrow (mrow μ (22, 0) R) (23, 0) M) (24, 0) (upd (μ (24, 0)) c (nI i))) = _
      have h1 := k3 i hi
      have eu : upd (upd (μ (24, 0)) c (nI i)) c (nI (i + 1)) = upd (μ (24, 0)) c (nI (i + 1)) := by
        funext x; rw [q_upd, q_upd, q_upd]; by_cases e : x = c
        · rw [if_pos e, if_pos e]
        · rw [if_neg e, if_neg e, if_neg e]
      simp (disch := omega) only [Option.bind_some, Option.map_some, Option.bind_none, q_lit, nI_add, pk_mul, q_sub, q_addn, q_cl, q_le, q_lt, q_eq, q_ck, q_cd, q_cb0, q_cb1, q_div, q_rem, q_shl1, q_shr, q_and, q_or, q_tb, if_pos, if_neg, if_true, if_false, not_true, not_false_iff, eq_self, Bool.true_eq_false, Bool.false_eq_true, q_bI0, q_bI1, q_cbI, Nat.or_zero, mst_row, mrow_neA, mrow_neB, mrow_self, q_upd, f_X11_mannersCome_L46, hMi i (by omega), hMi c (Nat.le_refl c), h1, mrow_mrow, eu]
    · show f_X11_mannersCome_L46 (nI p) (nI q) (nI c) (mrow (mrow (mrow μ (22, 0) R) (23, 0) M) (24, 0) (upd (μ (24, 0)) c (nI (alk (mnn r Λo p q) c)))) = _
      simp (disch := omega) only [Option.bind_some, Option.map_some, Option.bind_none, q_lit, nI_add, pk_mul, q_sub, q_addn, q_cl, q_le, q_lt, q_eq, q_ck, q_cd, q_cb0, q_cb1, q_div, q_rem, q_shl1, q_shr, q_and, q_or, q_tb, if_pos, if_neg, if_true, if_false, not_true, not_false_iff, eq_self, Bool.true_eq_false, Bool.false_eq_true, q_bI0, q_bI1, q_cbI, Nat.or_zero, mst_row, mrow_neA, mrow_neB, mrow_self, q_upd, f_X11_mannersCome_L46, hMi (alk (mnn r Λo p q) c) k1, hMi c (Nat.le_refl c), k2]
  refine ⟨mrow (mrow (mrow μ (22, 0) R) (23, 0) M) (24, 0) (upd (μ (24, 0)) c (nI (alk (mnn r Λo p q) c))), ?_, (by repeat first | exact Fr.rf | refine Fr.mr ?_ (by decide)), ?_, ?_⟩
  · have e1' : f_X11_mannerBy μ (nI p) (nI q) (nI (c / 2)) (bI (decide (c % 2 = 1))) = some (mnn r Λo p q c, mrow μ (22, 0) R) := e1
    simp (disch := omega) only [f_X11_mannersCome_J35, e1', Option.bind_some, q_ck, q_cl, q_lit, mst_row, mrow_neA, ← hMM]
    exact e2
  · rw [mrow_neA (by omega), mrow_self, hMM]
  · rw [mrow_self]
theorem q_mannersCome (h : RS μ V n N w0 r) (hRL : LRw r Λo) {p q : Nat} (hp : p < n) (hq : q < n) :
    ∃ a, f_X11_mannersCome μ (nI p) (nI q) = some a ∧ Fr [8, 9, 22, 23, 24] μ a ∧ ∀ w, w < N → lf r w = true → a (9, 0) w = nI (cmm r Λo V n N p q w) := by
  have hb := h.2.b
  unfold f_X11_mannersCome
  refine Wh_inv1 (2 * V) (fun k s => ∃ a, s = (a, nI k) ∧ Fr [8, 9, 22, 23, 24] μ a ∧ ∀ i, i < k → a (23, 0) i = mnn r Λo p q i ∧ a (24, 0) i = nI (alk (mnn r Λo p q) i)) _ ⟨μ, rfl, Fr.rf, fun i hi => by omega⟩ ?_ ?_
  · rintro k _ hk ⟨a, rfl, hF, hI⟩
    have ha := h.fr hF (by decide)
    obtain ⟨a', e1, hF', hM, hA⟩ := q_causeComes ha hRL hp hq (show k < 8 by omega) (fun i hi => (hI i hi).1)
    refine ⟨(a', nI (k + 1)), ?_, a', rfl, hF.tr (hF'.mono (by decide)), fun i hi => ?_⟩
    · show f_X11_mannersCome_L2 (nI p) (nI q) a (nI k) = _
      have h2 : k - k / 2 * 2 = k % 2 := by omega
      by_cases c : k % 2 = 1
      · rw [decide_eq_true c] at e1
        have c' : k - k / 2 * 2 = 1 := by omega
        simp (disch := omega) only [Option.bind_some, Option.map_some, Option.bind_none, q_lit, nI_add, pk_mul, q_sub, q_addn, q_cl, q_le, q_lt, q_eq, q_ck, q_cd, q_cb0, q_cb1, q_div, q_rem, q_shl1, q_shr, q_and, q_or, q_tb, if_pos, if_neg, if_true, if_false, not_true, not_false_iff, eq_self, Bool.true_eq_false, Bool.false_eq_true, q_bI0, q_bI1, q_cbI, Nat.or_zero, mst_row, mrow_neA, mrow_neB, mrow_self, q_upd, f_X11_mannersCome_L2, q_values ha, c']
        exact e1
      · rw [decide_eq_false c] at e1
        have c' : ¬ k - k / 2 * 2 = 1 := by omega
        simp (disch := omega) only [Option.bind_some, Option.map_some, Option.bind_none, q_lit, nI_add, pk_mul, q_sub, q_addn, q_cl, q_le, q_lt, q_eq, q_ck, q_cd, q_cb0, q_cb1, q_div, q_rem, q_shl1, q_shr, q_and, q_or, q_tb, if_pos, if_neg, if_true, if_false, not_true, not_false_iff, eq_self, Bool.true_eq_false, Bool.false_eq_true, q_bI0, q_bI1, q_cbI, Nat.or_zero, mst_row, mrow_neA, mrow_neB, mrow_self, q_upd, f_X11_mannersCome_L2, q_values ha, c']
        exact e1
    · rw [hM, hA, q_upd, q_upd]
      by_cases e : i = k
      · rw [if_pos e, if_pos e, e]; exact ⟨rfl, rfl⟩
      · rw [if_neg e, if_neg e]; exact hI i (by omega)
  · rintro _ ⟨a, rfl, hF, hI⟩
    have ha := h.fr hF (by decide)
    obtain ⟨_, e1, R, rfl, hR⟩ := q_lays ha hp hp
    have hh : ∃ x, Wh (fun z : Mm × Int32 => f_X11_mannersCome_L93 (nI p) (nI q) z.1 z.2) (mrow a (8, 0) R, nI 0) = some x ∧ ∃ C, x = mrow (mrow a (8, 0) R) (9, 0) C ∧ ∀ w, w < N → lf r w = true → C w = nI (cmm r Λo V n N p q w) := by
      refine Wh_inv1 N (fun k s => ∃ C, s = (mrow (mrow a (8, 0) R) (9, 0) C, nI k) ∧ ∀ w, w < k → lf r w = true → C w = nI (cmm r Λo V n N p q w)) _ ⟨a (9, 0), by rw [show a (9, 0) = mrow a (8, 0) R (9, 0) from (mrow_neA (by omega)).symm, mrow_id], fun w hw => by omega⟩ ?_ ?_
      · rintro k _ hk ⟨C, rfl, hC⟩
        have h' := (ha.row (a := 8) (b := 0) R (by omega)).row (a := 9) (b := 0) C (by omega)
        by_cases c : lf r k = true
        · have hl := (h.2.hb hp hk).2
          have h16 : poss (lf r) (lab r p) (fig V n p) N (lab r p k) < 16 := poss_16 ⟨hb.1, hb.2.1⟩
          have hf := fig_lt hb.1 n q k
          have hs1 : one (poss (lf r) (lab r p) (fig V n p) N (lab r p k)) = suR r V n N p k := one_sur (poss_ne0 hk c)
          have hcau := cau_lt (r := r) (n := n) (N := N) (p := p) (q := q) (w := k) ⟨hb.1, hb.2.1⟩
          have hA := (hI _ hcau).2
          have eA : alk (mnn r Λo p q) (cau r V n N p q k) = cmm r Λo V n N p q k := rfl
          rw [eA] at hA
          refine ⟨(mrow (mrow a (8, 0) R) (9, 0) (upd C k (nI (cmm r Λo V n N p q k))), nI (k + 1)), ?_, _, rfl, fun w hw hlw => ?_⟩
          · show f_X11_mannersCome_L93 (nI p) (nI q) (mrow (mrow a (8, 0) R) (9, 0) C) (nI k) = _
            cases hsu : suR r V n N p k
            · rw [hsu] at hs1
              have hcu : cau r V n N p q k = 2 * fig V n q k + 0 := by unfold cau; rw [hsu]; rfl
              rw [hcu] at hA
              simp (disch := omega) only [Option.bind_some, Option.map_some, Option.bind_none, q_lit, nI_add, pk_mul, q_sub, q_addn, q_cl, q_le, q_lt, q_eq, q_ck, q_cd, q_cb0, q_cb1, q_div, q_rem, q_shl1, q_shr, q_and, q_or, q_tb, if_pos, if_neg, if_true, if_false, not_true, not_false_iff, eq_self, Bool.true_eq_false, Bool.false_eq_true, q_bI0, q_bI1, q_cbI, Nat.or_zero, mst_row, mrow_neA, mrow_neB, mrow_self, q_upd, f_X11_mannersCome_L93, q_worlds h', q_isLeft h' hk, c, q_noticeIn h' hq hk, q_label h' hp hk, hR (lab r p k) (by omega), q_isOne (show poss (lf r) (lab r p) (fig V n p) N (lab r p k) < 2147483648 by omega), hs1, hA, mrow_mrow, bI_f]
            · rw [hsu] at hs1
              have hcu : cau r V n N p q k = 2 * fig V n q k + 1 := by unfold cau; rw [hsu]; rfl
              rw [hcu] at hA
              simp (disch := omega) only [Option.bind_some, Option.map_some, Option.bind_none, q_lit, nI_add, pk_mul, q_sub, q_addn, q_cl, q_le, q_lt, q_eq, q_ck, q_cd, q_cb0, q_cb1, q_div, q_rem, q_shl1, q_shr, q_and, q_or, q_tb, if_pos, if_neg, if_true, if_false, not_true, not_false_iff, eq_self, Bool.true_eq_false, Bool.false_eq_true, q_bI0, q_bI1, q_cbI, Nat.or_zero, mst_row, mrow_neA, mrow_neB, mrow_self, q_upd, f_X11_mannersCome_L93, q_worlds h', q_isLeft h' hk, c, q_noticeIn h' hq hk, q_label h' hp hk, hR (lab r p k) (by omega), q_isOne (show poss (lf r) (lab r p) (fig V n p) N (lab r p k) < 2147483648 by omega), hs1, hA, mrow_mrow, bI_t]
          · rw [q_upd]
            by_cases e : w = k
            · rw [if_pos e, e]
            · rw [if_neg e]; exact hC w (by omega) hlw
        · have c' := Bool.not_eq_true _ ▸ c
          refine ⟨(mrow (mrow a (8, 0) R) (9, 0) (upd C k (nI 0)), nI (k + 1)), ?_, _, rfl, fun w hw hlw => ?_⟩
          · show f_X11_mannersCome_L93 (nI p) (nI q) (mrow (mrow a (8, 0) R) (9, 0) C) (nI k) = _
            simp (disch := omega) only [Option.bind_some, Option.map_some, Option.bind_none, q_lit, nI_add, pk_mul, q_sub, q_addn, q_cl, q_le, q_lt, q_eq, q_ck, q_cd, q_cb0, q_cb1, q_div, q_rem, q_shl1, q_shr, q_and, q_or, q_tb, if_pos, if_neg, if_true, if_false, not_true, not_false_iff, eq_self, Bool.true_eq_false, Bool.false_eq_true, q_bI0, q_bI1, q_cbI, Nat.or_zero, mst_row, mrow_neA, mrow_neB, mrow_self, q_upd, f_X11_mannersCome_L93, q_worlds h', q_isLeft h' hk, c', mrow_mrow, bI_f]
          · rw [q_upd]
            by_cases e : w = k
            · rw [e] at hlw; exact absurd hlw c
            · rw [if_neg e]; exact hC w (by omega) hlw
      · rintro _ ⟨C, rfl, hC⟩
        have h' := (ha.row (a := 8) (b := 0) R (by omega)).row (a := 9) (b := 0) C (by omega)
        refine ⟨_, ?_, C, rfl, hC⟩
        show f_X11_mannersCome_L93 (nI p) (nI q) (mrow (mrow a (8, 0) R) (9, 0) C) (nI N) = _
        simp (disch := omega) only [Option.bind_some, Option.map_some, Option.bind_none, q_lit, nI_add, pk_mul, q_sub, q_addn, q_cl, q_le, q_lt, q_eq, q_ck, q_cd, q_cb0, q_cb1, q_div, q_rem, q_shl1, q_shr, q_and, q_or, q_tb, if_pos, if_neg, if_true, if_false, not_true, not_false_iff, eq_self, Bool.true_eq_false, Bool.false_eq_true, q_bI0, q_bI1, q_cbI, Nat.or_zero, mst_row, mrow_neA, mrow_neB, mrow_self, q_upd, f_X11_mannersCome_L93, q_worlds h', Nat.le_refl]
    obtain ⟨_, e2, C, rfl, hC⟩ := hh
    refine ⟨mrow (mrow a (8, 0) R) (9, 0) C, ?_, (hF.mr (by decide)).mr (by decide), fun w hw hl => by rw [mrow_self]; exact hC w hw hl⟩
    show f_X11_mannersCome_L2 (nI p) (nI q) a (nI (2 * V)) = _
    simp (disch := omega) only [Option.bind_some, Option.map_some, Option.bind_none, q_lit, nI_add, pk_mul, q_sub, q_addn, q_cl, q_le, q_lt, q_eq, q_ck, q_cd, q_cb0, q_cb1, q_div, q_rem, q_shl1, q_shr, q_and, q_or, q_tb, if_pos, if_neg, if_true, if_false, not_true, not_false_iff, eq_self, Bool.true_eq_false, Bool.false_eq_true, q_bI0, q_bI1, q_cbI, Nat.or_zero, mst_row, mrow_neA, mrow_neB, mrow_self, q_upd, f_X11_mannersCome_L2, q_values ha, Nat.le_refl, e1, e2]
end MEETQ
