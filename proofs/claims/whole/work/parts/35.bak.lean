-- backs read out: when one is sure then
theorem sur_pow : ∀ k, k < 9 → sur (2 ^ k) = true := by decide +kernel
theorem sur_iff {lf : Nat → Bool} {lb fg : Nat → Nat} {m w : Nat} (hw : w < m) (hl : lf w = true) (h4 : ∀ u, u < m → fg u < 4) : sur (poss lf lb fg m (lb w)) = true ↔ ∀ u, u < m → lf u = true → lb u = lb w → fg u = fg w := by
  have hlt : poss lf lb fg m (lb w) < 2 ^ 4 := poss_lt h4
  constructor
  · intro h u hu hlu hb
    have h2 := (tz_sur _ (by omega) h).2
    have b1 := (poss_tb (lf := lf) (lb := lb) (fg := fg) (m := m) (k := lb w) (fg u)).mpr ⟨u, hu, hlu, hb, rfl⟩
    have b2 := (poss_tb (lf := lf) (lb := lb) (fg := fg) (m := m) (k := lb w) (fg w)).mpr ⟨w, hw, hl, rfl, rfl⟩
    rw [h2, tb_pow] at b1 b2
    omega
  · intro h
    have e : poss lf lb fg m (lb w) = 2 ^ fg w := by
      apply Nat.eq_of_testBit_eq
      intro i
      have h1 := poss_tb (lf := lf) (lb := lb) (fg := fg) (m := m) (k := lb w) i
      have h2 := tb_pow (fg w) i
      cases c1 : (poss lf lb fg m (lb w)).testBit i <;> cases c2 : (2 ^ fg w).testBit i
      · rfl
      · have h3 := h2.mp c2
        have := h1.mpr ⟨w, hw, hl, rfl, h3.symm⟩
        rw [c1] at this; cases this
      · obtain ⟨u, hu, hlu, hb, hf⟩ := h1.mp c1
        have := h2.mpr (by rw [← hf, h u hu hlu hb])
        rw [c2] at this; cases this
      · rfl
    rw [e]
    exact sur_pow _ (by have := h4 w hw; omega)
/-- notices of a set of people read out, one behind another -/
def rdA (V n N w0 s : Nat) (r : Nat → Int32) : Nat → (Nat → Int32)
  | 0 => r
  | p + 1 => if s.testBit p = true then drp (fun w => nI (fig V n p w)) N w0 (rdA V n N w0 s r p) else rdA V n N w0 s r p
theorem rdA_s (V n N w0 s : Nat) (r : Nat → Int32) (p : Nat) : rdA V n N w0 s r (p + 1) = if s.testBit p = true then drp (fun w => nI (fig V n p w)) N w0 (rdA V n N w0 s r p) else rdA V n N w0 s r p := rfl
section BAKS
variable {V n N w0 : Nat} {r : Nat → Int32}
theorem rdA_WF (h : WF V n N w0 r) (s p : Nat) : WF V n N w0 (rdA V n N w0 s r p) := by
  induction p with
  | zero => exact h
  | succ p ih =>
    rw [rdA_s]
    split
    · exact drp_WF _ ih
    · exact ih
theorem rdA_ne (h : WF V n N w0 r) (s p : Nat) {i : Nat} (hi : i < 20 ∨ 532 ≤ i) : rdA V n N w0 s r p i = r i := by
  have hb := h.b
  induction p with
  | zero => rfl
  | succ p ih =>
    rw [rdA_s]
    split
    · rw [drp_ne (by omega), ih]
    · exact ih
theorem rdA_lab (h : WF V n N w0 r) (s p q : Nat) : lab (rdA V n N w0 s r p) q = lab r q := by
  have hb := h.b
  induction p with
  | zero => rfl
  | succ p ih =>
    rw [rdA_s]
    split
    · rw [drp_labf hb.2.2.2.1, ih]
    · exact ih
theorem rdA_lf (h : WF V n N w0 r) (s p : Nat) {w : Nat} (hw : w < N) : lf (rdA V n N w0 s r p) w = true ↔ lf r w = true ∧ ∀ q, q < p → s.testBit q = true → fig V n q w = fig V n q w0 := by
  have hb := h.b
  induction p with
  | zero => exact ⟨fun x => ⟨x, fun q hq => by omega⟩, fun x => x.1⟩
  | succ p ih =>
    rw [rdA_s]
    by_cases c : s.testBit p = true
    · rw [if_pos c, drp_lf hw, Bool.and_eq_true, propext ih, decide_eq_true_iff]
      have f1 := fig_lt hb.1 n p w
      have f2 := fig_lt hb.1 n p w0
      rw [q_eq (by omega) (by omega)]
      constructor
      · rintro ⟨⟨h1, h2⟩, h3⟩
        refine ⟨h1, fun q hq hs => ?_⟩
        by_cases e : q = p
        · subst e; exact h3
        · exact h2 q (by omega) hs
      · rintro ⟨h1, h2⟩
        exact ⟨⟨h1, fun q hq hs => h2 q (by omega) hs⟩, h2 p (by omega) c⟩
    · rw [if_neg c, propext ih]
      constructor
      · rintro ⟨h1, h2⟩
        refine ⟨h1, fun q hq hs => ?_⟩
        by_cases e : q = p
        · subst e; exact absurd hs c
        · exact h2 q (by omega) hs
      · rintro ⟨h1, h2⟩
        exact ⟨h1, fun q hq hs => h2 q (by omega) hs⟩
/-- a world that one holds and has another notice in -/
def dbt (r : Nat → Int32) (V n p w0 w : Nat) : Bool := hld r p w0 w && !decide (fig V n p w = fig V n p w0)
/-- who else has another notice there -/
def ulk (V n w0 w : Nat) : Nat := set n (fun q => !decide (fig V n q w = fig V n q w0))
def stl (r : Nat → Int32) (V n N w0 p s : Nat) : Bool := suR (rdA V n N w0 s r n) V n N p w0
theorem stl_iff (h : WF V n N w0 r) {p : Nat} (hp : p < n) (s : Nat) : stl r V n N w0 p s = true ↔ ∀ w, w < N → dbt r V n p w0 w = true → ulk V n w0 w &&& s ≠ 0 := by
  have hb := h.b
  have hw0 := hb.2.2.2.2.2
  unfold stl suR
  rw [rdA_lab h, sur_iff hw0 (rdA_WF h s n).h0 (fun u _ => by have := fig_lt hb.1 n p u; omega)]
  constructor
  · intro h1 w hw hd e
    have hd : (hld r p w0 w && !decide (fig V n p w = fig V n p w0)) = true := hd
    rw [Bool.and_eq_true, Bool.not_eq_true', decide_eq_false_iff_not] at hd
    have hh : (lf r w && decide (lab r p w = lab r p w0)) = true := hd.1
    rw [Bool.and_eq_true, decide_eq_true_iff] at hh
    refine hd.2 (h1 w hw ((rdA_lf h s n hw).mpr ⟨hh.1, fun q hq hs => ?_⟩) hh.2)
    have hz : (ulk V n w0 w &&& s).testBit q = false := by rw [e]; simp
    rw [Nat.testBit_and, hs, Bool.and_true] at hz
    cases c : decide (fig V n q w = fig V n q w0)
    · have := (set_tb (m := n) (f := fun q => !decide (fig V n q w = fig V n q w0)) q).mpr ⟨hq, by simp [c]⟩
      have hz : (set n (fun q => !decide (fig V n q w = fig V n q w0))).testBit q = false := hz
      rw [hz] at this; cases this
    · exact of_decide_eq_true c
  · intro h1 w hw hlw hlab
    rw [rdA_lf h s n hw] at hlw
    cases c : decide (fig V n p w = fig V n p w0)
    · have hne := h1 w hw (by unfold dbt hld; simp [hlw.1, hlab, c])
      exfalso
      refine hne ?_
      apply Nat.eq_of_testBit_eq
      intro i
      rw [Nat.testBit_and, Nat.zero_testBit]
      cases c1 : (ulk V n w0 w).testBit i
      · rfl
      · cases c2 : s.testBit i
        · rfl
        · have h3 := (set_tb (m := n) (f := fun q => !decide (fig V n q w = fig V n q w0)) i).mp c1
          have h4 := hlw.2 i h3.1 c2
          have h5 := h3.2
          simp [h4] at h5
    · exact of_decide_eq_true c
theorem ulk_lt {w : Nat} (hn : n ≤ 9) : ulk V n w0 w < 512 := set_512 _ hn
end BAKS
/-- the fewest, of several the first -/
def bkS (t : Nat → Bool) : Nat → Option Nat
  | 0 => none
  | s + 1 => match bkS t s with
    | none => if t s = true then some s else none
    | some b => if bc s < bc b ∧ t s = true then some s else some b
def bkV : Option Nat → Int32
  | none => -nI 2
  | some b => nI b
theorem bkS_lt {t : Nat → Bool} {s b : Nat} (h : bkS t s = some b) : b < s := by
  induction s generalizing b with
  | zero => cases h
  | succ s ih =>
    rw [bkS] at h
    cases c : bkS t s with
    | none =>
      rw [c] at h
      dsimp only at h
      split at h
      · cases h; omega
      · cases h
    | some b' =>
      rw [c] at h
      have := ih c
      dsimp only at h
      split at h
      · cases h; omega
      · cases h; omega
def bkT (r : Nat → Int32) (V n N w0 p s : Nat) : Bool := !s.testBit p && stl r V n N w0 p s
theorem pow_512 {n : Nat} (h : n ≤ 9) : 2 ^ n ≤ 512 := Nat.pow_le_pow_right (by decide) h
theorem m2_ne : ∀ k, k < 512 → ¬ nI k = -nI 2 := by decide +kernel
theorem m2_lt : -nI 2 < nI 0 := by decide
theorem q_tb0 {m p : Nat} : (nI (m / 2 ^ p &&& 1) = nI 0) = (m.testBit p = false) := by
  rw [q_tbn]
  by_cases h : m.testBit p = true
  · simp [h]; decide
  · simp [h]
section BAKQ
variable {μ : Mm} {V n N w0 : Nat} {r : Nat → Int32}
theorem q_readsAll (h : RS μ V n N w0 r) {s : Nat} (hs : s < 512) : ∃ μ', f_X11_readsAll μ (nI s) = some μ' ∧ RS μ' V n N w0 (rdA V n N w0 s r n) ∧ Fr [1, 9] μ μ' := by
  have hb := h.2.b
  unfold f_X11_readsAll
  refine Wh_inv1 n (fun k z => ∃ a, z = (a, nI k) ∧ RS a V n N w0 (rdA V n N w0 s r k) ∧ Fr [1, 9] μ a) _ ⟨μ, rfl, h, Fr.rf⟩ ?_ ?_
  · rintro k _ hk ⟨a, rfl, ha, hF⟩
    have e0 := q_has (m := s) (p := k) (by omega) (by omega)
    by_cases c : s.testBit k = true
    · obtain ⟨a2, e1, ha2, hF2⟩ := q_readsOut ha hk
      refine ⟨(a2, nI (k + 1)), ?_, a2, rfl, by rw [rdA_s, if_pos c]; exact ha2, hF.tr hF2⟩
      show f_X11_readsAll_L2 (nI s) a (nI k) = _
      simp (disch := omega) only [Option.bind_some, Option.map_some, Option.bind_none, q_lit, nI_add, pk_mul, q_sub, q_addn, q_cl, q_le, q_lt, q_eq, q_ck, q_cd, q_cb0, q_cb1, q_div, q_rem, q_shl1, q_shr, q_and, q_or, q_tb, if_pos, if_neg, if_true, if_false, not_true, not_false_iff, eq_self, Bool.true_eq_false, Bool.false_eq_true, q_bI0, q_bI1, q_cbI, Nat.or_zero, mst_row, mrow_neA, mrow_neB, mrow_self, q_upd, f_X11_readsAll_L2, q_people ha, e0, c, e1]
    · have c := Bool.not_eq_true _ ▸ c
      refine ⟨(a, nI (k + 1)), ?_, a, rfl, by rw [rdA_s, if_neg (by rw [c]; decide)]; exact ha, hF⟩
      show f_X11_readsAll_L2 (nI s) a (nI k) = _
      simp (disch := omega) only [Option.bind_some, Option.map_some, Option.bind_none, q_lit, nI_add, pk_mul, q_sub, q_addn, q_cl, q_le, q_lt, q_eq, q_ck, q_cd, q_cb0, q_cb1, q_div, q_rem, q_shl1, q_shr, q_and, q_or, q_tb, if_pos, if_neg, if_true, if_false, not_true, not_false_iff, eq_self, Bool.true_eq_false, Bool.false_eq_true, q_bI0, q_bI1, q_cbI, Nat.or_zero, mst_row, mrow_neA, mrow_neB, mrow_self, q_upd, f_X11_readsAll_L2, q_people ha, e0, c]
  · rintro _ ⟨a, rfl, ha, hF⟩
    refine ⟨a, ?_, ha, hF⟩
    show f_X11_readsAll_L2 (nI s) a (nI n) = _
    simp (disch := omega) only [Option.bind_some, Option.map_some, Option.bind_none, q_lit, nI_add, pk_mul, q_sub, q_addn, q_cl, q_le, q_lt, q_eq, q_ck, q_cd, q_cb0, q_cb1, q_div, q_rem, q_shl1, q_shr, q_and, q_or, q_tb, if_pos, if_neg, if_true, if_false, not_true, not_false_iff, eq_self, Bool.true_eq_false, Bool.false_eq_true, q_bI0, q_bI1, q_cbI, Nat.or_zero, mst_row, mrow_neA, mrow_neB, mrow_self, q_upd, f_X11_readsAll_L2, q_people ha, Nat.le_refl]
/-- read a set out, look whether one is sure, go back -/
theorem q_tryOut (h : RS μ V n N w0 r) {K : Nat → Int32} (hK0 : μ (27, 0) = K) (hK : ∀ w, w < 512 → K w = r (20 + w)) {p s : Nat} (hp : p < n) (hs : s < 512) :
    ∃ a b, f_X11_readsAll μ (nI s) = some a ∧ RS a V n N w0 (rdA V n N w0 s r n) ∧ f_X11_isSure a (nI p) (nI w0) = some (bI (stl r V n N w0 p s), b) ∧ f_X11_bringsLeft b = some (mrow b (1, 0) r) ∧ b (1, 0) = rdA V n N w0 s r n ∧ b (27, 0) = K ∧ Fr [1, 8, 9] μ b := by
  have hb := h.2.b
  obtain ⟨a, e1, ha, hF⟩ := q_readsAll h hs
  obtain ⟨R, e2⟩ := q_isSure ha hp hb.2.2.2.2.2 ha.2.h0
  have hk : (mrow a (8, 0) R) (27, 0) = K := by rw [mrow_neA (by omega), hF 27 (by decide)]; exact hK0
  have h1 : (mrow a (8, 0) R) (1, 0) = rdA V n N w0 s r n := by rw [mrow_neA (by omega)]; exact ha.1
  exact ⟨a, mrow a (8, 0) R, e1, ha, e2, q_bringsLeft h1 (fun i hi => rdA_ne h.2 s n hi) (fun w hw => by rw [hk]; exact hK w hw), h1, hk, (hF.mono (by decide)).mr (by decide)⟩
theorem q_backs (h : RS μ V n N w0 r) {p : Nat} (hp : p < n) : ∃ μ', (f_X11_keepsLeft μ).bind (fun x21 => Wh (fun z : Mm × Int32 × Int32 => f_X11_backs_L29 (nI p) z.1 z.2.1 z.2.2) (x21, -nI 2, nI 0)) = some (bkV (bkS (bkT r V n N w0 p) (2 ^ n)), μ') ∧ RS μ' V n N w0 r ∧ Fr [1, 8, 9, 27] μ μ' := by
  have hb := h.2.b
  have h9 := pow_512 hb.2.2.2.2.1
  obtain ⟨K, eK, hK⟩ := q_keepsLeft h
  have h0 := h.row (a := 27) (b := 0) K (by omega)
  have hh : ∃ x, Wh (fun z : Mm × Int32 × Int32 => f_X11_backs_L29 (nI p) z.1 z.2.1 z.2.2) (mrow μ (27, 0) K, -nI 2, nI 0) = some x ∧ ∃ μ', x = (bkV (bkS (bkT r V n N w0 p) (2 ^ n)), μ') ∧ RS μ' V n N w0 r ∧ Fr [1, 8, 9, 27] μ μ' := by
    refine Wh_inv1 (2 ^ n) (fun s z => ∃ a, z = (a, bkV (bkS (bkT r V n N w0 p) s), nI s) ∧ RS a V n N w0 r ∧ a (27, 0) = K ∧ Fr [1, 8, 9, 27] μ a) _ ⟨_, rfl, h0, mrow_self _ _ _, (by repeat first | exact Fr.rf | refine Fr.mr ?_ (by decide))⟩ ?_ ?_
    · rintro s _ hs ⟨a, rfl, ha, haK, hF⟩
      have e0 := q_has (m := s) (p := p) (by omega) (by omega)
      obtain ⟨a1, b1, e1, ha1, e2, e3, hb1, hbK, hF1⟩ := q_tryOut ha haK hK hp (show s < 512 by omega)
      have hF3 : Fr [1, 8, 9, 27] μ (mrow b1 (1, 0) r) := (hF.tr (hF1.mono (by decide))).mr (by decide)
      have hK3 : (mrow b1 (1, 0) r) (27, 0) = K := by rw [mrow_neA (by omega)]; exact hbK
      have e4 := q_here ha1
      have esh : (1 : Int32) <<< (nI n &&& 31) = nI (2 ^ n) := by simp (disch := omega) only [Option.bind_some, Option.map_some, Option.bind_none, q_lit, nI_add, pk_mul, q_sub, q_addn, q_cl, q_le, q_lt, q_eq, q_ck, q_cd, q_cb0, q_cb1, q_div, q_rem, q_shl1, q_shr, q_and, q_or, q_tb, if_pos, if_neg, if_true, if_false, not_true, not_false_iff, eq_self, Bool.true_eq_false, Bool.false_eq_true, q_bI0, q_bI1, q_cbI, Nat.or_zero, mst_row, mrow_neA, mrow_neB, mrow_self, q_upd, ]
      have keep : f_X11_backs_L29 (nI p) a (bkV (bkS (bkT r V n N w0 p) s)) (nI s) = some (.inl (a, bkV (bkS (bkT r V n N w0 p) s), nI (s + 1))) → bkS (bkT r V n N w0 p) (s + 1) = bkS (bkT r V n N w0 p) s → ∃ s', (fun z : Mm × Int32 × Int32 => f_X11_backs_L29 (nI p) z.1 z.2.1 z.2.2) (a, bkV (bkS (bkT r V n N w0 p) s), nI s) = some (.inl s') ∧ ∃ a, s' = (a, bkV (bkS (bkT r V n N w0 p) (s + 1)), nI (s + 1)) ∧ RS a V n N w0 r ∧ a (27, 0) = K ∧ Fr [1, 8, 9, 27] μ a := fun e1 e2 => ⟨_, e1, a, by rw [e2], ha, haK, hF⟩
      have try_ : ∀ b : Int32, f_X11_backs_L29 (nI p) a (bkV (bkS (bkT r V n N w0 p) s)) (nI s) = some (.inl (mrow b1 (1, 0) r, b, nI (s + 1))) → b = bkV (bkS (bkT r V n N w0 p) (s + 1)) → ∃ s', (fun z : Mm × Int32 × Int32 => f_X11_backs_L29 (nI p) z.1 z.2.1 z.2.2) (a, bkV (bkS (bkT r V n N w0 p) s), nI s) = some (.inl s') ∧ ∃ a, s' = (a, bkV (bkS (bkT r V n N w0 p) (s + 1)), nI (s + 1)) ∧ RS a V n N w0 r ∧ a (27, 0) = K ∧ Fr [1, 8, 9, 27] μ a := fun b e1 e2 => ⟨_, e1, mrow b1 (1, 0) r, by rw [e2], RS.set h.2 _, hK3, hF3⟩
      have ht : bkT r V n N w0 p s = (!s.testBit p && stl r V n N w0 p s) := rfl
      by_cases c : s.testBit p = true
      · refine keep ?_ ?_
        · simp (disch := omega) only [Option.bind_some, Option.map_some, Option.bind_none, q_lit, nI_add, pk_mul, q_sub, q_addn, q_cl, q_le, q_lt, q_eq, q_ck, q_cd, q_cb0, q_cb1, q_div, q_rem, q_shl1, q_shr, q_and, q_or, q_tb, if_pos, if_neg, if_true, if_false, not_true, not_false_iff, eq_self, Bool.true_eq_false, Bool.false_eq_true, q_bI0, q_bI1, q_cbI, Nat.or_zero, mst_row, mrow_neA, mrow_neB, mrow_self, q_upd, f_X11_backs_L29, q_people ha, e0, c]
        · rw [bkS]
          cases bkS (bkT r V n N w0 p) s <;> simp [ht, c]
      · have c := Bool.not_eq_true _ ▸ c
        cases cb : bkS (bkT r V n N w0 p) s with
        | none =>
          rw [cb] at try_
          have v2 : bkV none = -nI 2 := rfl
          by_cases c2 : stl r V n N w0 p s = true
          · refine try_ (nI s) ?_ ?_
            · simp (disch := omega) only [Option.bind_some, Option.map_some, Option.bind_none, q_lit, nI_add, pk_mul, q_sub, q_addn, q_cl, q_le, q_lt, q_eq, q_ck, q_cd, q_cb0, q_cb1, q_div, q_rem, q_shl1, q_shr, q_and, q_or, q_tb, if_pos, if_neg, if_true, if_false, not_true, not_false_iff, eq_self, Bool.true_eq_false, Bool.false_eq_true, q_bI0, q_bI1, q_cbI, Nat.or_zero, mst_row, mrow_neA, mrow_neB, mrow_self, q_upd, v2, f_X11_backs_L29, f_X11_backs_J65, q_people ha, e0, c, if_pos m2_lt, e1, e4, e2, c2, e3]
            · rw [bkS, cb]; simp [ht, c, c2, bkV]
          · have c2 := Bool.not_eq_true _ ▸ c2
            refine try_ (-nI 2) ?_ ?_
            · simp (disch := omega) only [Option.bind_some, Option.map_some, Option.bind_none, q_lit, nI_add, pk_mul, q_sub, q_addn, q_cl, q_le, q_lt, q_eq, q_ck, q_cd, q_cb0, q_cb1, q_div, q_rem, q_shl1, q_shr, q_and, q_or, q_tb, if_pos, if_neg, if_true, if_false, not_true, not_false_iff, eq_self, Bool.true_eq_false, Bool.false_eq_true, q_bI0, q_bI1, q_cbI, Nat.or_zero, mst_row, mrow_neA, mrow_neB, mrow_self, q_upd, v2, f_X11_backs_L29, f_X11_backs_J65, q_people ha, e0, c, if_pos m2_lt, e1, e4, e2, c2, e3]
            · rw [bkS, cb]; simp [ht, c, c2, bkV]
        | some b0 =>
          rw [cb] at try_ keep
          have hb0 := bkS_lt cb
          have v2 : bkV (some b0) = nI b0 := rfl
          have k1 := k_bc (show s < 512 by omega)
          have k2 := k_bc (show b0 < 512 by omega)
          have l1 := bc_le s
          have l2 := bc_le b0
          by_cases c3 : bc s < bc b0
          · by_cases c2 : stl r V n N w0 p s = true
            · refine try_ (nI s) ?_ ?_
              · simp (disch := omega) only [Option.bind_some, Option.map_some, Option.bind_none, q_lit, nI_add, pk_mul, q_sub, q_addn, q_cl, q_le, q_lt, q_eq, q_ck, q_cd, q_cb0, q_cb1, q_div, q_rem, q_shl1, q_shr, q_and, q_or, q_tb, if_pos, if_neg, if_true, if_false, not_true, not_false_iff, eq_self, Bool.true_eq_false, Bool.false_eq_true, q_bI0, q_bI1, q_cbI, Nat.or_zero, mst_row, mrow_neA, mrow_neB, mrow_self, q_upd, v2, f_X11_backs_L29, f_X11_backs_J65, q_people ha, e0, c, k1, k2, c3, e1, e4, e2, c2, e3]
              · rw [bkS, cb]; simp [ht, c, c2, c3, bkV]
            · have c2 := Bool.not_eq_true _ ▸ c2
              refine try_ (nI b0) ?_ ?_
              · simp (disch := omega) only [Option.bind_some, Option.map_some, Option.bind_none, q_lit, nI_add, pk_mul, q_sub, q_addn, q_cl, q_le, q_lt, q_eq, q_ck, q_cd, q_cb0, q_cb1, q_div, q_rem, q_shl1, q_shr, q_and, q_or, q_tb, if_pos, if_neg, if_true, if_false, not_true, not_false_iff, eq_self, Bool.true_eq_false, Bool.false_eq_true, q_bI0, q_bI1, q_cbI, Nat.or_zero, mst_row, mrow_neA, mrow_neB, mrow_self, q_upd, v2, f_X11_backs_L29, f_X11_backs_J65, q_people ha, e0, c, k1, k2, c3, e1, e4, e2, c2, e3]
              · rw [bkS, cb]; simp [ht, c, c2, c3, bkV]
          · refine keep ?_ ?_
            · simp (disch := omega) only [Option.bind_some, Option.map_some, Option.bind_none, q_lit, nI_add, pk_mul, q_sub, q_addn, q_cl, q_le, q_lt, q_eq, q_ck, q_cd, q_cb0, q_cb1, q_div, q_rem, q_shl1, q_shr, q_and, q_or, q_tb, if_pos, if_neg, if_true, if_false, not_true, not_false_iff, eq_self, Bool.true_eq_false, Bool.false_eq_true, q_bI0, q_bI1, q_cbI, Nat.or_zero, mst_row, mrow_neA, mrow_neB, mrow_self, q_upd, v2, f_X11_backs_L29, q_people ha, e0, c, k1, k2, c3]
            · rw [bkS, cb]; simp [c3]
    · rintro _ ⟨a, rfl, ha, haK, hF⟩
      refine ⟨(bkV (bkS (bkT r V n N w0 p) (2 ^ n)), a), ?_, a, rfl, ha, hF⟩
      show f_X11_backs_L29 (nI p) a (bkV (bkS (bkT r V n N w0 p) (2 ^ n))) (nI (2 ^ n)) = _
      simp (disch := omega) only [Option.bind_some, Option.map_some, Option.bind_none, q_lit, nI_add, pk_mul, q_sub, q_addn, q_cl, q_le, q_lt, q_eq, q_ck, q_cd, q_cb0, q_cb1, q_div, q_rem, q_shl1, q_shr, q_and, q_or, q_tb, if_pos, if_neg, if_true, if_false, not_true, not_false_iff, eq_self, Bool.true_eq_false, Bool.false_eq_true, q_bI0, q_bI1, q_cbI, Nat.or_zero, mst_row, mrow_neA, mrow_neB, mrow_self, q_upd, f_X11_backs_L29, q_people ha, Nat.le_refl]
  obtain ⟨_, e, a, rfl, h1, h2⟩ := hh
  exact ⟨a, by rw [eK, Option.bind_some, e], h1, h2⟩
end BAKQ
section BAKK
variable {sh : Sh} {ln : Nat → Nat} {μ : Mm} {j V n N w0 : Nat} {r : Nat → Int32}
theorem k_unlike (h : CS ln μ j V n N w0 r) {w : Nat} (hw : w < N) : f_X5_unlikeBits sh ln j μ (nI w) = some (nI (ulk V n w0 w)) := by
  have hb := h.1.b
  have hw0 := hb.2.2.2.2.2
  unfold f_X5_unlikeBits
  refine Wh_it n (fun k => (nI (set k (fun q => !decide (fig V n q w = fig V n q w0))), nI k)) rfl (fun k hk => ?_) ?_
  · show f_X5_unlikeBits_L5 sh ln j (nI w) μ (nI (set k (fun q => !decide (fig V n q w = fig V n q w0)))) (nI k) = some (.inl (nI (set (k + 1) (fun q => !decide (fig V n q w = fig V n q w0))), nI (k + 1)))
    rw [set_s]
    have f1 := fig_lt hb.1 n k w
    have f2 := fig_lt hb.1 n k w0
    by_cases c : fig V n k w = fig V n k w0
    · simp (disch := omega) only [Option.bind_some, Option.map_some, Option.bind_none, q_lit, nI_add, pk_mul, q_sub, q_addn, q_cl, q_le, q_lt, q_eq, q_ck, q_cd, q_cb0, q_cb1, q_div, q_rem, q_shl1, q_shr, q_and, q_or, q_tb, if_pos, if_neg, if_true, if_false, not_true, not_false_iff, eq_self, Bool.true_eq_false, Bool.false_eq_true, q_bI0, q_bI1, q_cbI, Nat.or_zero, mst_row, mrow_neA, mrow_neB, mrow_self, q_upd, f_X5_unlikeBits_L5, h.c1, h.c3, k_figure h hk hw, k_figure h hk hw0, c, decide_true, Bool.not_true]
    · simp (disch := omega) only [Option.bind_some, Option.map_some, Option.bind_none, q_lit, nI_add, pk_mul, q_sub, q_addn, q_cl, q_le, q_lt, q_eq, q_ck, q_cd, q_cb0, q_cb1, q_div, q_rem, q_shl1, q_shr, q_and, q_or, q_tb, if_pos, if_neg, if_true, if_false, not_true, not_false_iff, eq_self, Bool.true_eq_false, Bool.false_eq_true, q_bI0, q_bI1, q_cbI, Nat.or_zero, mst_row, mrow_neA, mrow_neB, mrow_self, q_upd, f_X5_unlikeBits_L5, h.c1, h.c3, k_figure h hk hw, k_figure h hk hw0, c, decide_false, Bool.not_false]
  · show f_X5_unlikeBits_L5 sh ln j (nI w) μ (nI (set n (fun q => !decide (fig V n q w = fig V n q w0)))) (nI n) = _
    simp (disch := omega) only [Option.bind_some, Option.map_some, Option.bind_none, q_lit, nI_add, pk_mul, q_sub, q_addn, q_cl, q_le, q_lt, q_eq, q_ck, q_cd, q_cb0, q_cb1, q_div, q_rem, q_shl1, q_shr, q_and, q_or, q_tb, if_pos, if_neg, if_true, if_false, not_true, not_false_iff, eq_self, Bool.true_eq_false, Bool.false_eq_true, q_bI0, q_bI1, q_cbI, Nat.or_zero, mst_row, mrow_neA, mrow_neB, mrow_self, q_upd, f_X5_unlikeBits_L5, h.c1, Nat.le_refl]
    rfl
/-- the doubts are gathered -/
def DB (μ : Mm) (r : Nat → Int32) (V n w0 p m : Nat) : Prop := μ (5, 0) 2 = nI (cnt m (dbt r V n p w0)) ∧ (∀ w, w < m → dbt r V n p w0 w = true → ∃ i, i < cnt m (dbt r V n p w0) ∧ μ (12, 10) i = nI (ulk V n w0 w)) ∧
  (∀ i, i < cnt m (dbt r V n p w0) → ∃ w, w < m ∧ dbt r V n p w0 w = true ∧ μ (12, 10) i = nI (ulk V n w0 w))
def FrX (μ μ' : Mm) : Prop := ∀ q : Ky, q ≠ (5, 0) → ¬ (q.1 = 12 ∧ 1 ≤ q.2 ∧ q.2 < 15) → μ' q = μ q
theorem FrX.rf {μ : Mm} : FrX μ μ := fun _ _ _ => rfl
theorem FrX.tr {μ a b : Mm} (h : FrX μ a) (h2 : FrX a b) : FrX μ b := fun q h1 h3 => (h2 q h1 h3).trans (h q h1 h3)
theorem FrX.mr {μ a : Mm} {c : Nat} {f : Nat → Int32} (h : FrX μ a) (h1 : 1 ≤ c) (h2 : c < 15) : FrX μ (mrow a (12, c) f) := fun q h3 h4 => by
  have hne : q ≠ (12, c) := fun e => h4 (by rw [e]; exact ⟨rfl, h1, h2⟩)
  rw [mrow_ne hne]
  exact h q h3 h4
theorem FrX.m5 {μ a : Mm} {f : Nat → Int32} (h : FrX μ a) : FrX μ (mrow a (5, 0) f) := fun q h3 h4 => by
  rw [mrow_ne h3]
  exact h q h3 h4
theorem FrC.X {P : Nat → Prop} {μ a : Mm} (h : FrC P μ a) (hP : ∀ c, P c → 1 ≤ c ∧ c < 15) : FrX μ a := fun q _ h2 => h q (fun x => h2 ⟨x.1, hP _ x.2⟩)
theorem CS.X {ln : Nat → Nat} {μ a : Mm} {j V n N w0 : Nat} {r : Nat → Int32} (h : CS ln μ j V n N w0 r) (hF : FrX μ a) : CS ln a j V n N w0 r := by
  have e : ∀ i, a (12, 15 + 5 * j + i) = μ (12, 15 + 5 * j + i) := fun i => hF _ (fun e => absurd (congrArg Prod.fst e) (by simp)) (fun x => by have := x.2.2; dsimp only at this; omega)
  have e2 : a (13, j) = μ (13, j) := hF _ (fun e => absurd (congrArg Prod.fst e) (by simp)) (fun x => absurd x.1 (by simp))
  unfold CS at *
  rw [e2, e, e, e, e]
  exact h
theorem k_doubts (h : CS ln μ j V n N w0 r) (hL : LN ln) {p : Nat} (hp : p < n) : ∃ a, f_X5_gatherDoubts sh ln j μ (nI p) = some a ∧ CS ln a j V n N w0 r ∧ FrX μ a ∧ DB a r V n w0 p N := by
  have hb := h.1.b
  have hw0 := hb.2.2.2.2.2
  have hl10 : ln 10 = 512 := hL.2.2.2.2.2.2.2.2.2.2.1
  have h0 : CS ln (mrow μ (5, 0) (upd (μ (5, 0)) 2 (nI 0))) j V n N w0 r := h.rowS _ (by omega) (Or.inl (by omega))
  have e13 : mrow μ (5, 0) (upd (μ (5, 0)) 2 (nI 0)) (13, j) 3 = nI w0 := h0.c3
  have e0 : f_X5_gatherDoubts sh ln j μ (nI p) = Wh (fun z : Mm × Int32 => f_X5_gatherDoubts_L18 sh ln j (nI p) (nI (lab r p w0)) z.1 z.2) (mrow μ (5, 0) (upd (μ (5, 0)) 2 (nI 0)), nI 0) := by
    unfold f_X5_gatherDoubts
    rw [mst_row, show (0 : Int32) = nI 0 from rfl, e13, k_group h0 hp hw0, Option.bind_some]
  rw [e0]
  refine Wh_inv1 N (fun k z => ∃ a, z = (a, nI k) ∧ CS ln a j V n N w0 r ∧ FrX μ a ∧ DB a r V n w0 p k) _ ⟨_, rfl, h0, FrX.rf.m5, ?_, fun w hw => by omega, fun i hi => absurd hi (Nat.not_lt_zero i)⟩ ?_ ?_
  · rw [mrow_self, q_upd, if_pos rfl]; rfl
  · rintro k _ hk ⟨a, rfl, ha, hF, hD⟩
    have l1 := (h.1.hb hp hk).2
    have l2 := (h.1.hb hp hw0).2
    have f1 := fig_lt hb.1 n p k
    have f2 := fig_lt hb.1 n p w0
    have es : cnt (k + 1) (dbt r V n p w0) = cnt k (dbt r V n p w0) + (if dbt r V n p w0 k = true then 1 else 0) := rfl
    have hck := cnt_le k (dbt r V n p w0)
    have hd : dbt r V n p w0 k = ((lf r k && decide (lab r p k = lab r p w0)) && !decide (fig V n p k = fig V n p w0)) := rfl
    have keep : f_X5_gatherDoubts_L18 sh ln j (nI p) (nI (lab r p w0)) a (nI k) = some (.inl (a, nI (k + 1))) → dbt r V n p w0 k = false → ∃ s', (fun z : Mm × Int32 => f_X5_gatherDoubts_L18 sh ln j (nI p) (nI (lab r p w0)) z.1 z.2) (a, nI k) = some (.inl s') ∧ ∃ a, s' = (a, nI (k + 1)) ∧ CS ln a j V n N w0 r ∧ FrX μ a ∧ DB a r V n w0 p (k + 1) := by
      intro e1 e2
      have ec : cnt (k + 1) (dbt r V n p w0) = cnt k (dbt r V n p w0) := by rw [es, e2]; rfl
      refine ⟨_, e1, a, rfl, ha, hF, by rw [ec]; exact hD.1, fun w hw hdw => ?_, fun i hi => ?_⟩
      · rw [ec]
        by_cases e : w = k
        · subst e; rw [e2] at hdw; cases hdw
        · exact hD.2.1 w (by omega) hdw
      · rw [ec] at hi
        obtain ⟨w, hw, x⟩ := hD.2.2 i hi
        exact ⟨w, by omega, x⟩
    by_cases c1 : lf r k = true
    · by_cases c2 : lab r p k = lab r p w0
      · by_cases c3 : fig V n p k = fig V n p w0
        · refine keep ?_ (by rw [hd, c3]; simp)
          simp (disch := omega) only [Option.bind_some, Option.map_some, Option.bind_none, q_lit, nI_add, pk_mul, q_sub, q_addn, q_cl, q_le, q_lt, q_eq, q_ck, q_cd, q_cb0, q_cb1, q_div, q_rem, q_shl1, q_shr, q_and, q_or, q_tb, if_pos, if_neg, if_true, if_false, not_true, not_false_iff, eq_self, Bool.true_eq_false, Bool.false_eq_true, q_bI0, q_bI1, q_cbI, Nat.or_zero, mst_row, mrow_neA, mrow_neB, mrow_self, q_upd, f_X5_gatherDoubts_L18, ha.c2, ha.c3, k_stands ha hk, c1, k_group ha hp hk, c2, k_figure ha hp hk, k_figure ha hp hw0, c3]
        · have hdk : dbt r V n p w0 k = true := by rw [hd]; simp [c1, c2, c3]
          have ec : cnt (k + 1) (dbt r V n p w0) = cnt k (dbt r V n p w0) + 1 := by rw [es, hdk]; rfl
          have ep : f_X1_put sh ln 10 a (nI (cnt k (dbt r V n p w0))) (nI (ulk V n w0 k)) = some (mrow a (12, 10) (upd (a (12, 10)) (cnt k (dbt r V n p w0)) (nI (ulk V n w0 k)))) := k_put (by omega) (by omega)
          have hD1 := hD.1
          refine ⟨(mrow (mrow a (12, 10) (upd (a (12, 10)) (cnt k (dbt r V n p w0)) (nI (ulk V n w0 k)))) (5, 0) (upd (a (5, 0)) 2 (nI (cnt k (dbt r V n p w0) + 1))), nI (k + 1)), ?_, _, rfl, (ha.rowS _ (by omega) (by omega)).rowS _ (by omega) (Or.inl (by omega)), (hF.mr (by omega) (by omega)).m5, ?_, fun w hw hdw => ?_, fun i hi => ?_⟩
          · show f_X5_gatherDoubts_L18 sh ln j (nI p) (nI (lab r p w0)) a (nI k) = _
            simp (disch := omega) only [Option.bind_some, Option.map_some, Option.bind_none, q_lit, nI_add, pk_mul, q_sub, q_addn, q_cl, q_le, q_lt, q_eq, q_ck, q_cd, q_cb0, q_cb1, q_div, q_rem, q_shl1, q_shr, q_and, q_or, q_tb, if_pos, if_neg, if_true, if_false, not_true, not_false_iff, eq_self, Bool.true_eq_false, Bool.false_eq_true, q_bI0, q_bI1, q_cbI, Nat.or_zero, mst_row, mrow_neA, mrow_neB, mrow_self, q_upd, f_X5_gatherDoubts_L18, ha.c2, ha.c3, k_stands ha hk, c1, k_group ha hp hk, c2, k_figure ha hp hk, k_figure ha hp hw0, c3, k_unlike ha hk, hD1, ep]
          · rw [mrow_self, q_upd, if_pos rfl, ec]
          · rw [mrow_neA (by omega), mrow_self, ec]
            by_cases e : w = k
            · subst e; exact ⟨cnt w (dbt r V n p w0), by omega, by rw [q_upd, if_pos rfl]⟩
            · obtain ⟨i, hi, hx⟩ := hD.2.1 w (by omega) hdw
              exact ⟨i, by omega, by rw [q_upd, if_neg (by omega)]; exact hx⟩
          · rw [mrow_neA (by omega), mrow_self]
            rw [ec] at hi
            by_cases e : i = cnt k (dbt r V n p w0)
            · exact ⟨k, by omega, hdk, by rw [q_upd, if_pos e]⟩
            · obtain ⟨w, hw, hdw, hx⟩ := hD.2.2 i (by omega)
              exact ⟨w, by omega, hdw, by rw [q_upd, if_neg e]; exact hx⟩
      · refine keep ?_ (by rw [hd]; simp [c2])
        simp (disch := omega) only [Option.bind_some, Option.map_some, Option.bind_none, q_lit, nI_add, pk_mul, q_sub, q_addn, q_cl, q_le, q_lt, q_eq, q_ck, q_cd, q_cb0, q_cb1, q_div, q_rem, q_shl1, q_shr, q_and, q_or, q_tb, if_pos, if_neg, if_true, if_false, not_true, not_false_iff, eq_self, Bool.true_eq_false, Bool.false_eq_true, q_bI0, q_bI1, q_cbI, Nat.or_zero, mst_row, mrow_neA, mrow_neB, mrow_self, q_upd, f_X5_gatherDoubts_L18, ha.c2, ha.c3, k_stands ha hk, c1, k_group ha hp hk, c2]
    · have c1 := Bool.not_eq_true _ ▸ c1
      refine keep ?_ (by rw [hd, c1]; simp)
      simp (disch := omega) only [Option.bind_some, Option.map_some, Option.bind_none, q_lit, nI_add, pk_mul, q_sub, q_addn, q_cl, q_le, q_lt, q_eq, q_ck, q_cd, q_cb0, q_cb1, q_div, q_rem, q_shl1, q_shr, q_and, q_or, q_tb, if_pos, if_neg, if_true, if_false, not_true, not_false_iff, eq_self, Bool.true_eq_false, Bool.false_eq_true, q_bI0, q_bI1, q_cbI, Nat.or_zero, mst_row, mrow_neA, mrow_neB, mrow_self, q_upd, f_X5_gatherDoubts_L18, ha.c2, k_stands ha hk, c1]
  · rintro _ ⟨a, rfl, ha, hF, hD⟩
    refine ⟨a, ?_, ha, hF, hD⟩
    show f_X5_gatherDoubts_L18 sh ln j (nI p) (nI (lab r p w0)) a (nI N) = _
    simp (disch := omega) only [Option.bind_some, Option.map_some, Option.bind_none, q_lit, nI_add, pk_mul, q_sub, q_addn, q_cl, q_le, q_lt, q_eq, q_ck, q_cd, q_cb0, q_cb1, q_div, q_rem, q_shl1, q_shr, q_and, q_or, q_tb, if_pos, if_neg, if_true, if_false, not_true, not_false_iff, eq_self, Bool.true_eq_false, Bool.false_eq_true, q_bI0, q_bI1, q_cbI, Nat.or_zero, mst_row, mrow_neA, mrow_neB, mrow_self, q_upd, f_X5_gatherDoubts_L18, ha.c2, Nat.le_refl]
theorem k_settles (hr : WF V n N w0 r) (hL : LN ln) {p s : Nat} (hp : p < n) (hD : DB μ r V n w0 p N) (hs : s < 512) : f_X5_settles sh ln μ (nI s) = some (bI (stl r V n N w0 p s)) := by
  have hb := hr.b
  have hl10 : ln 10 = 512 := hL.2.2.2.2.2.2.2.2.2.2.1
  have hcl := cnt_le N (dbt r V n p w0)
  have hh : ∃ x, f_X5_settles sh ln μ (nI s) = some x ∧ x = bI (stl r V n N w0 p s) := by
    unfold f_X5_settles
    refine Wh_inv (cnt N (dbt r V n p w0)) (fun i z => z = nI i ∧ ∀ u, u < i → ∀ w, w < N → dbt r V n p w0 w = true → μ (12, 10) u = nI (ulk V n w0 w) → ulk V n w0 w &&& s ≠ 0) _ ⟨rfl, fun u hu => by omega⟩ ?_ ?_
    · rintro i _ hi ⟨rfl, hA⟩
      obtain ⟨w, hw, hdw, hx⟩ := hD.2.2 i hi
      have hu := ulk_lt (V := V) (n := n) (w0 := w0) (w := w) hb.2.2.2.2.1
      have e1 : f_X1_at sh ln 10 μ (nI i) = some (nI (ulk V n w0 w)) := by rw [k_at (by omega) (by omega), hx]
      have hand : ulk V n w0 w &&& s ≤ ulk V n w0 w := Nat.and_le_left
      by_cases c : ulk V n w0 w &&& s = 0
      · right
        refine ⟨nI 0, ?_, ?_⟩
        · show f_X5_settles_L2 sh ln (nI s) μ (nI i) = _
          simp (disch := omega) only [Option.bind_some, Option.map_some, Option.bind_none, q_lit, nI_add, pk_mul, q_sub, q_addn, q_cl, q_le, q_lt, q_eq, q_ck, q_cd, q_cb0, q_cb1, q_div, q_rem, q_shl1, q_shr, q_and, q_or, q_tb, if_pos, if_neg, if_true, if_false, not_true, not_false_iff, eq_self, Bool.true_eq_false, Bool.false_eq_true, q_bI0, q_bI1, q_cbI, Nat.or_zero, mst_row, mrow_neA, mrow_neB, mrow_self, q_upd, f_X5_settles_L2, hD.1, e1, c]
        · have : stl r V n N w0 p s = false := by
            cases c2 : stl r V n N w0 p s
            · rfl
            · exact absurd c ((stl_iff hr hp s).mp c2 w hw hdw)
          rw [this]; rfl
      · left
        refine ⟨nI (i + 1), ?_, rfl, fun u hu2 w2 hw2 hd2 hx2 => ?_⟩
        · show f_X5_settles_L2 sh ln (nI s) μ (nI i) = _
          simp (disch := omega) only [Option.bind_some, Option.map_some, Option.bind_none, q_lit, nI_add, pk_mul, q_sub, q_addn, q_cl, q_le, q_lt, q_eq, q_ck, q_cd, q_cb0, q_cb1, q_div, q_rem, q_shl1, q_shr, q_and, q_or, q_tb, if_pos, if_neg, if_true, if_false, not_true, not_false_iff, eq_self, Bool.true_eq_false, Bool.false_eq_true, q_bI0, q_bI1, q_cbI, Nat.or_zero, mst_row, mrow_neA, mrow_neB, mrow_self, q_upd, f_X5_settles_L2, hD.1, e1, c]
        · by_cases e : u = i
          · subst e
            rw [hx] at hx2
            have hu2 := ulk_lt (V := V) (n := n) (w0 := w0) (w := w2) hb.2.2.2.2.1
            rw [q_eq (by omega) (by omega)] at hx2
            rw [← hx2]; exact c
          · exact hA u (by omega) w2 hw2 hd2 hx2
    · rintro _ ⟨rfl, hA⟩
      refine ⟨nI 1, ?_, ?_⟩
      · show f_X5_settles_L2 sh ln (nI s) μ (nI (cnt N (dbt r V n p w0))) = _
        simp (disch := omega) only [Option.bind_some, Option.map_some, Option.bind_none, q_lit, nI_add, pk_mul, q_sub, q_addn, q_cl, q_le, q_lt, q_eq, q_ck, q_cd, q_cb0, q_cb1, q_div, q_rem, q_shl1, q_shr, q_and, q_or, q_tb, if_pos, if_neg, if_true, if_false, not_true, not_false_iff, eq_self, Bool.true_eq_false, Bool.false_eq_true, q_bI0, q_bI1, q_cbI, Nat.or_zero, mst_row, mrow_neA, mrow_neB, mrow_self, q_upd, f_X5_settles_L2, hD.1, Nat.le_refl]
      · have : stl r V n N w0 p s = true := (stl_iff hr hp s).mpr (fun w hw hdw => by
          obtain ⟨i, hi, hx⟩ := hD.2.1 w hw hdw
          exact hA i hi w hw hdw hx)
        rw [this]; rfl
  obtain ⟨_, e, rfl⟩ := hh
  exact e
theorem k_backs (h : CS ln μ j V n N w0 r) (hL : LN ln) {p : Nat} (hp : p < n) : ∃ a, f_X5_fewestBacks sh ln j μ (nI p) = some (bkV (bkS (bkT r V n N w0 p) (2 ^ n)), a) ∧ FrX μ a := by
  have hb := h.1.b
  have h9 := pow_512 hb.2.2.2.2.1
  obtain ⟨a, e0, ha, hF, hD⟩ := k_doubts (sh := sh) h hL hp
  refine ⟨a, ?_, hF⟩
  rw [f_X5_fewestBacks, e0, Option.bind_some]
  refine Wh_it (2 ^ n) (fun s => (bkV (bkS (bkT r V n N w0 p) s), nI s)) rfl (fun s hs => ?_) ?_
  · show f_X5_fewestBacks_L12 sh ln j (nI p) a (bkV (bkS (bkT r V n N w0 p) s)) (nI s) = some (.inl (bkV (bkS (bkT r V n N w0 p) (s + 1)), nI (s + 1)))
    have e1 := k_settles (sh := sh) (μ := a) h.1 hL hp hD (show s < 512 by omega)
    have ht : bkT r V n N w0 p s = (!s.testBit p && stl r V n N w0 p s) := rfl
    have k1 := k_bc (show s < 512 by omega)
    have l1 := bc_le s
    cases cb : bkS (bkT r V n N w0 p) s with
    | none =>
      have v2 : bkV none = -nI 2 := rfl
      by_cases c : s.testBit p = true
      · have e2 : bkS (bkT r V n N w0 p) (s + 1) = none := by rw [bkS, cb]; simp [ht, c]
        rw [e2, v2]
        simp (disch := omega) only [Option.bind_some, Option.map_some, Option.bind_none, q_lit, nI_add, pk_mul, q_sub, q_addn, q_cl, q_le, q_lt, q_eq, q_ck, q_cd, q_cb0, q_cb1, q_div, q_rem, q_shl1, q_shr, q_and, q_or, q_tb, if_pos, if_neg, if_true, if_false, not_true, not_false_iff, eq_self, Bool.true_eq_false, Bool.false_eq_true, q_bI0, q_bI1, q_cbI, Nat.or_zero, mst_row, mrow_neA, mrow_neB, mrow_self, q_upd, f_X5_fewestBacks_L12, f_X5_fewestBacks_J46, ha.c1, q_tb0, c]
      · have c := Bool.not_eq_true _ ▸ c
        by_cases c2 : stl r V n N w0 p s = true
        · have e2 : bkS (bkT r V n N w0 p) (s + 1) = some s := by rw [bkS, cb]; simp [ht, c, c2]
          rw [e2, v2]
          simp (disch := omega) only [Option.bind_some, Option.map_some, Option.bind_none, q_lit, nI_add, pk_mul, q_sub, q_addn, q_cl, q_le, q_lt, q_eq, q_ck, q_cd, q_cb0, q_cb1, q_div, q_rem, q_shl1, q_shr, q_and, q_or, q_tb, if_pos, if_neg, if_true, if_false, not_true, not_false_iff, eq_self, Bool.true_eq_false, Bool.false_eq_true, q_bI0, q_bI1, q_cbI, Nat.or_zero, mst_row, mrow_neA, mrow_neB, mrow_self, q_upd, f_X5_fewestBacks_L12, f_X5_fewestBacks_J46, ha.c1, q_tb0, c, e1, c2]
          rfl
        · have c2 := Bool.not_eq_true _ ▸ c2
          have e2 : bkS (bkT r V n N w0 p) (s + 1) = none := by rw [bkS, cb]; simp [ht, c, c2]
          rw [e2, v2]
          simp (disch := omega) only [Option.bind_some, Option.map_some, Option.bind_none, q_lit, nI_add, pk_mul, q_sub, q_addn, q_cl, q_le, q_lt, q_eq, q_ck, q_cd, q_cb0, q_cb1, q_div, q_rem, q_shl1, q_shr, q_and, q_or, q_tb, if_pos, if_neg, if_true, if_false, not_true, not_false_iff, eq_self, Bool.true_eq_false, Bool.false_eq_true, q_bI0, q_bI1, q_cbI, Nat.or_zero, mst_row, mrow_neA, mrow_neB, mrow_self, q_upd, f_X5_fewestBacks_L12, f_X5_fewestBacks_J46, ha.c1, q_tb0, c, e1, c2]
    | some b0 =>
      have hb0 := bkS_lt cb
      have v2 : bkV (some b0) = nI b0 := rfl
      have k2 := k_bc (show b0 < 512 by omega)
      have l2 := bc_le b0
      have hm := m2_ne b0 (by omega)
      by_cases c3 : bc s < bc b0
      · by_cases c : s.testBit p = true
        · have e2 : bkS (bkT r V n N w0 p) (s + 1) = some b0 := by rw [bkS, cb]; simp [ht, c]
          rw [e2, v2]
          simp (disch := omega) only [Option.bind_some, Option.map_some, Option.bind_none, q_lit, nI_add, pk_mul, q_sub, q_addn, q_cl, q_le, q_lt, q_eq, q_ck, q_cd, q_cb0, q_cb1, q_div, q_rem, q_shl1, q_shr, q_and, q_or, q_tb, if_pos, if_neg, if_true, if_false, not_true, not_false_iff, eq_self, Bool.true_eq_false, Bool.false_eq_true, q_bI0, q_bI1, q_cbI, Nat.or_zero, mst_row, mrow_neA, mrow_neB, mrow_self, q_upd, f_X5_fewestBacks_L12, f_X5_fewestBacks_J46, ha.c1, if_neg hm, k1, k2, c3, q_tb0, c]
        · have c := Bool.not_eq_true _ ▸ c
          by_cases c2 : stl r V n N w0 p s = true
          · have e2 : bkS (bkT r V n N w0 p) (s + 1) = some s := by rw [bkS, cb]; simp [ht, c, c2, c3]
            rw [e2, v2]
            simp (disch := omega) only [Option.bind_some, Option.map_some, Option.bind_none, q_lit, nI_add, pk_mul, q_sub, q_addn, q_cl, q_le, q_lt, q_eq, q_ck, q_cd, q_cb0, q_cb1, q_div, q_rem, q_shl1, q_shr, q_and, q_or, q_tb, if_pos, if_neg, if_true, if_false, not_true, not_false_iff, eq_self, Bool.true_eq_false, Bool.false_eq_true, q_bI0, q_bI1, q_cbI, Nat.or_zero, mst_row, mrow_neA, mrow_neB, mrow_self, q_upd, f_X5_fewestBacks_L12, f_X5_fewestBacks_J46, ha.c1, if_neg hm, k1, k2, c3, q_tb0, c, e1, c2]
            rfl
          · have c2 := Bool.not_eq_true _ ▸ c2
            have e2 : bkS (bkT r V n N w0 p) (s + 1) = some b0 := by rw [bkS, cb]; simp [ht, c, c2]
            rw [e2, v2]
            simp (disch := omega) only [Option.bind_some, Option.map_some, Option.bind_none, q_lit, nI_add, pk_mul, q_sub, q_addn, q_cl, q_le, q_lt, q_eq, q_ck, q_cd, q_cb0, q_cb1, q_div, q_rem, q_shl1, q_shr, q_and, q_or, q_tb, if_pos, if_neg, if_true, if_false, not_true, not_false_iff, eq_self, Bool.true_eq_false, Bool.false_eq_true, q_bI0, q_bI1, q_cbI, Nat.or_zero, mst_row, mrow_neA, mrow_neB, mrow_self, q_upd, f_X5_fewestBacks_L12, f_X5_fewestBacks_J46, ha.c1, if_neg hm, k1, k2, c3, q_tb0, c, e1, c2]
      · have e2 : bkS (bkT r V n N w0 p) (s + 1) = some b0 := by rw [bkS, cb]; simp [c3]
        rw [e2, v2]
        simp (disch := omega) only [Option.bind_some, Option.map_some, Option.bind_none, q_lit, nI_add, pk_mul, q_sub, q_addn, q_cl, q_le, q_lt, q_eq, q_ck, q_cd, q_cb0, q_cb1, q_div, q_rem, q_shl1, q_shr, q_and, q_or, q_tb, if_pos, if_neg, if_true, if_false, not_true, not_false_iff, eq_self, Bool.true_eq_false, Bool.false_eq_true, q_bI0, q_bI1, q_cbI, Nat.or_zero, mst_row, mrow_neA, mrow_neB, mrow_self, q_upd, f_X5_fewestBacks_L12, f_X5_fewestBacks_J46, ha.c1, if_neg hm, k1, k2, c3]
  · show f_X5_fewestBacks_L12 sh ln j (nI p) a (bkV (bkS (bkT r V n N w0 p) (2 ^ n))) (nI (2 ^ n)) = _
    simp (disch := omega) only [Option.bind_some, Option.map_some, Option.bind_none, q_lit, nI_add, pk_mul, q_sub, q_addn, q_cl, q_le, q_lt, q_eq, q_ck, q_cd, q_cb0, q_cb1, q_div, q_rem, q_shl1, q_shr, q_and, q_or, q_tb, if_pos, if_neg, if_true, if_false, not_true, not_false_iff, eq_self, Bool.true_eq_false, Bool.false_eq_true, q_bI0, q_bI1, q_cbI, Nat.or_zero, mst_row, mrow_neA, mrow_neB, mrow_self, q_upd, f_X5_fewestBacks_L12, ha.c1, Nat.le_refl]
end BAKK
