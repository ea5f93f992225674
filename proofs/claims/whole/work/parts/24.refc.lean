-- told apart: new marks by first come
def rl (lv : Nat → Bool) (key old : Nat → Nat) : Nat → Nat × (Nat → Nat) × (Nat → Nat)
  | 0 => (0, fun _ => 0, old)
  | k + 1 =>
    if lv k = true then
      (if (rl lv key old k).2.1 (key k) = 0 then ((rl lv key old k).1 + 1, updN (rl lv key old k).2.1 (key k) ((rl lv key old k).1 + 1), updN (rl lv key old k).2.2 k (rl lv key old k).1)
        else ((rl lv key old k).1, (rl lv key old k).2.1, updN (rl lv key old k).2.2 k ((rl lv key old k).2.1 (key k) - 1)))
    else rl lv key old k
theorem rl_0 (lv : Nat → Bool) (key old : Nat → Nat) : rl lv key old 0 = (0, fun _ => 0, old) := rfl
theorem rl_n {lv : Nat → Bool} {key old : Nat → Nat} {k : Nat} (h : lv k = false) : rl lv key old (k + 1) = rl lv key old k := by simp [rl, h]
theorem rl_z {lv : Nat → Bool} {key old : Nat → Nat} {k : Nat} (h : lv k = true) (h0 : (rl lv key old k).2.1 (key k) = 0) : rl lv key old (k + 1) = ((rl lv key old k).1 + 1, updN (rl lv key old k).2.1 (key k) ((rl lv key old k).1 + 1), updN (rl lv key old k).2.2 k (rl lv key old k).1) := by simp [rl, h, h0]
theorem rl_p {lv : Nat → Bool} {key old : Nat → Nat} {k : Nat} (h : lv k = true) (h0 : ¬ (rl lv key old k).2.1 (key k) = 0) : rl lv key old (k + 1) = ((rl lv key old k).1, (rl lv key old k).2.1, updN (rl lv key old k).2.2 k ((rl lv key old k).2.1 (key k) - 1)) := by simp [rl, h, h0]
theorem rl_b (lv : Nat → Bool) (key old : Nat → Nat) (k : Nat) : (rl lv key old k).1 ≤ k ∧ ∀ x, (rl lv key old k).2.1 x ≤ (rl lv key old k).1 := by
  induction k with
  | zero => exact ⟨Nat.le_refl 0, fun x => Nat.le_refl 0⟩
  | succ k ih =>
    by_cases h : lv k = true
    · by_cases h0 : (rl lv key old k).2.1 (key k) = 0
      · rw [rl_z h h0]
        refine ⟨by have := ih.1; show _ + 1 ≤ _; omega, fun x => ?_⟩
        show updN _ _ _ x ≤ _ + 1
        rw [updN_ap]
        split
        · exact Nat.le_refl _
        · have := ih.2 x; omega
      · rw [rl_p h h0]
        exact ⟨by have := ih.1; show (rl lv key old k).1 ≤ _; omega, ih.2⟩
    · rw [rl_n (Bool.not_eq_true _ ▸ h)]
      exact ⟨by have := ih.1; omega, ih.2⟩
theorem rl_o {lv : Nat → Bool} {key old : Nat → Nat} {N : Nat} (ho : ∀ w, w < N → old w < N) (k : Nat) (hk : k ≤ N) : ∀ w, w < N → (rl lv key old k).2.2 w < N := by
  induction k with
  | zero => exact ho
  | succ k ih =>
    intro w hw
    have hb := rl_b lv key old k
    by_cases h : lv k = true
    · by_cases h0 : (rl lv key old k).2.1 (key k) = 0
      · rw [rl_z h h0]
        show updN _ _ _ w < N
        rw [updN_ap]
        split
        · omega
        · exact ih (by omega) w hw
      · rw [rl_p h h0]
        show updN _ _ _ w < N
        rw [updN_ap]
        split
        · have := hb.2 (key k); omega
        · exact ih (by omega) w hw
    · rw [rl_n (Bool.not_eq_true _ ▸ h)]
      exact ih (by omega) w hw
theorem rl_congr {lv : Nat → Bool} {key key' old old' : Nat → Nat} {N : Nat} (hk : ∀ w, w < N → lv w = true → key w = key' w) (ho : old = old') : ∀ k, k ≤ N → rl lv key old k = rl lv key' old' k := by
  subst ho
  intro k
  induction k with
  | zero => intro _; rfl
  | succ k ih =>
    intro h
    have e := ih (by omega)
    by_cases c : lv k = true
    · have e2 := hk k (by omega) c
      by_cases h0 : (rl lv key old k).2.1 (key k) = 0
      · rw [rl_z c h0, rl_z c (by rw [← e, ← e2]; exact h0), e, e2]
      · rw [rl_p c h0, rl_p c (by rw [← e, ← e2]; exact h0), e, e2]
    · have c := Bool.not_eq_true _ ▸ c
      rw [rl_n c, rl_n c, e]
/-- a row with somebody's marks replaced -/
def rlr (o : Nat → Nat) (p N : Nat) (r : Nat → Int32) : Nat → Int32 := fun i => if 532 + 512 * p ≤ i ∧ i < 532 + 512 * p + N then nI (o (i - (532 + 512 * p))) else r i
theorem rlr_ne {o : Nat → Nat} {p N : Nat} {r : Nat → Int32} {i : Nat} (h : i < 532 + 512 * p ∨ 532 + 512 * p + N ≤ i) : rlr o p N r i = r i := if_neg (by omega)
theorem rlr_at {o : Nat → Nat} {p N : Nat} {r : Nat → Int32} {w : Nat} (h : w < N) : rlr o p N r (532 + 512 * p + w) = nI (o w) := by
  unfold rlr
  rw [if_pos (by omega), show 532 + 512 * p + w - (532 + 512 * p) = w by omega]
theorem rlr_lf {o : Nat → Nat} {p N : Nat} {r : Nat → Int32} {w : Nat} (h : w < 512) : lf (rlr o p N r) w = lf r w := by
  unfold lf
  rw [rlr_ne (by omega)]
theorem rlr_se {o : Nat → Nat} {p N : Nat} {r : Nat → Int32} {q : Nat} (h : q < 9) : se (rlr o p N r) q = se r q := by
  unfold se
  rw [rlr_ne (by omega)]
theorem rlr_lab {o : Nat → Nat} {p N : Nat} {r : Nat → Int32} {q w : Nat} (hN : N ≤ 512) (hw : w < N) (ho : o w < 2147483648) : lab (rlr o p N r) q w = if q = p then o w else lab r q w := by
  unfold lab
  by_cases e : q = p
  · subst e
    rw [rlr_at hw, if_pos rfl, q_cl ho]
  · rw [if_neg e, rlr_ne (by omega)]
theorem rlr_WF {V n N w0 : Nat} {r : Nat → Int32} {o : Nat → Nat} {p : Nat} (h : WF V n N w0 r) (hp : p < n) (ho : ∀ w, w < N → o w < N) : WF V n N w0 (rlr o p N r) := by
  have hb := h.b
  refine ⟨h.1, ⟨?_, ?_, ?_, ?_⟩, ?_, ?_, ?_, ?_, ?_, ?_, ?_, ?_⟩
  · rw [rlr_ne (by omega)]; exact h.v0
  · rw [rlr_ne (by omega)]; exact h.v1
  · rw [rlr_ne (by omega)]; exact h.v10
  · rw [rlr_ne (by omega)]; exact h.v6
  · intro w hw
    rw [rlr_lf (by omega), rlr_ne (by omega)]; exact h.hl hw
  · rw [rlr_lf (by omega)]; exact h.h0
  · intro q w hq hw
    have := ho w hw
    rw [rlr_lab hb.2.2.2.1 hw (by omega)]
    by_cases e : q = p
    · subst e
      rw [rlr_at hw, if_pos rfl]; exact ⟨rfl, this⟩
    · rw [if_neg e, rlr_ne (by omega)]; exact h.hb hq hw
  · intro q hq
    rw [rlr_se (by omega), rlr_ne (by omega)]; exact h.hs hq
  · rw [rlr_ne (by omega)]; exact h.hg
  · rw [rlr_ne (by omega)]; exact h.2.2.2.2.2.2.2.1
  · rw [rlr_ne (by omega)]; exact h.2.2.2.2.2.2.2.2.1
  · rw [rlr_ne (by omega)]; exact h.2.2.2.2.2.2.2.2.2
theorem rlr_upd {o : Nat → Nat} {p N k x : Nat} {r : Nat → Int32} (hk : k < N) : upd (rlr o p N r) (532 + 512 * p + k) (nI x) = rlr (updN o k x) p N r := by
  funext i
  rw [q_upd]
  by_cases hi : i = 532 + 512 * p + k
  · subst hi
    rw [if_pos rfl, rlr_at hk, updN_ap, if_pos rfl]
  · rw [if_neg hi]
    unfold rlr
    by_cases c : 532 + 512 * p ≤ i ∧ i < 532 + 512 * p + N
    · rw [if_pos c, if_pos c, updN_ap, if_neg (by omega)]
    · rw [if_neg c, if_neg c]
theorem rlr_old {V n N w0 : Nat} {r : Nat → Int32} {p : Nat} (h : WF V n N w0 r) (hp : p < n) : rlr (lab r p) p N r = r := by
  funext i
  unfold rlr
  by_cases c : 532 + 512 * p ≤ i ∧ i < 532 + 512 * p + N
  · rw [if_pos c]
    have := (h.hb hp (w := i - (532 + 512 * p)) (by omega)).1
    rw [show 532 + 512 * p + (i - (532 + 512 * p)) = i by omega] at this
    exact this.symm
  · rw [if_neg c]
/-- the marks behind 'one tells apart', by what came in each world -/
def relab (cm : Nat → Nat) (N p : Nat) (r : Nat → Int32) : Nat → Nat := (rl (lf r) (fun w => 8 * lab r p w + cm w) (lab r p) N).2.2
theorem relab_lt {V n N w0 : Nat} {r : Nat → Int32} {p : Nat} (h : WF V n N w0 r) (hp : p < n) (cm : Nat → Nat) : ∀ w, w < N → relab cm N p r w < N := rl_o (fun w hw => (h.hb hp hw).2) N (Nat.le_refl N)
section REFC
variable {μ : Mm} {V n N w0 : Nat} {r : Nat → Int32}
theorem RS.set {ρ : Nat → Int32} (h : WF V n N w0 ρ) (μ : Mm) : RS (mrow μ (1, 0) ρ) V n N w0 ρ := ⟨mrow_self _ _ _, h⟩
theorem q_parts (h : RS μ V n N w0 r) {p : Nat} (hp : p < n) {cm : Nat → Nat} (hc : ∀ w, w < N → lf r w = true → μ (9, 0) w = nI (cm w)) (hc8 : ∀ w, w < N → cm w < 8) :
    ∃ T, f_X11_parts μ (nI p) = some (mrow (mrow μ (10, 0) T) (1, 0) (rlr (relab cm N p r) p N r)) := by
  have hb := h.2.b
  have hh : ∃ x, f_X11_parts μ (nI p) = some x ∧ ∃ T, x = mrow (mrow μ (10, 0) T) (1, 0) (rlr (relab cm N p r) p N r) := by
    unfold f_X11_parts
    refine Wh_inv1 4096 (fun k s => ∃ R, s = (mrow μ (10, 0) R, nI k) ∧ ∀ i, i < k → R i = nI 0) _ ⟨μ (10, 0), by rw [mrow_id]; rfl, fun i hi => by omega⟩ ?_ ?_
    · rintro k _ hk ⟨R, rfl, hR⟩
      refine ⟨(mrow μ (10, 0) (upd R k (nI 0)), nI (k + 1)), ?_, _, rfl, ?_⟩
      · show f_X11_parts_L2 (nI p) (mrow μ (10, 0) R) (nI k) = _
        simp (disch := omega) only [Option.bind_some, Option.map_some, Option.bind_none, q_lit, nI_add, pk_mul, q_sub, q_addn, q_cl, q_le, q_lt, q_eq, q_ck, q_cd, q_cb0, q_cb1, q_div, q_rem, q_shl1, q_shr, q_and, q_or, q_tb, if_pos, if_neg, if_true, if_false, not_true, not_false_iff, eq_self, Bool.true_eq_false, Bool.false_eq_true, q_bI0, q_bI1, q_cbI, Nat.or_zero, mst_row, mrow_neA, mrow_neB, mrow_self, q_upd, f_X11_parts_L2, mrow_mrow]
      · intro i hi
        rw [q_upd]
        split
        · rfl
        · exact hR i (by omega)
    · rintro _ ⟨R, rfl, hR⟩
      have e : f_X11_parts_L2 (nI p) (mrow μ (10, 0) R) (nI 4096) = (Wh (fun z : Mm × Int32 × Int32 => f_X11_parts_L28 (nI p) z.1 z.2.1 z.2.2) (mrow μ (10, 0) R, nI 0, nI 0)).map Sum.inr := by
        simp (disch := omega) only [Option.bind_some, Option.map_some, Option.bind_none, q_lit, nI_add, pk_mul, q_sub, q_addn, q_cl, q_le, q_lt, q_eq, q_ck, q_cd, q_cb0, q_cb1, q_div, q_rem, q_shl1, q_shr, q_and, q_or, q_tb, if_pos, if_neg, if_true, if_false, not_true, not_false_iff, eq_self, Bool.true_eq_false, Bool.false_eq_true, q_bI0, q_bI1, q_cbI, Nat.or_zero, mst_row, mrow_neA, mrow_neB, mrow_self, q_upd, f_X11_parts_L2]
      have hh : ∃ μ', Wh (fun z : Mm × Int32 × Int32 => f_X11_parts_L28 (nI p) z.1 z.2.1 z.2.2) (mrow μ (10, 0) R, nI 0, nI 0) = some μ' ∧ ∃ T, μ' = mrow (mrow μ (10, 0) T) (1, 0) (rlr (relab cm N p r) p N r) := by
        refine Wh_inv1 N (fun k s => ∃ T, s = (mrow (mrow μ (10, 0) T) (1, 0) (rlr (rl (lf r) (fun w => 8 * lab r p w + cm w) (lab r p) k).2.2 p N r), nI (rl (lf r) (fun w => 8 * lab r p w + cm w) (lab r p) k).1, nI k) ∧
          (∀ i, i < 4096 → T i = nI ((rl (lf r) (fun w => 8 * lab r p w + cm w) (lab r p) k).2.1 i)) ∧ ∀ w, k ≤ w → (rl (lf r) (fun w => 8 * lab r p w + cm w) (lab r p) k).2.2 w = lab r p w) _ ⟨R, ?_, hR, fun w _ => rfl⟩ ?_ ?_
        · rw [rl_0, rlr_old h.2 hp]
          have : mrow μ (10, 0) R (1, 0) = r := by rw [mrow_neA (by omega)]; exact h.1
          rw [← this, mrow_id]
        · rintro k _ hk ⟨T, rfl, hT, ho⟩
          have hz := rl_b (lf r) (fun w => 8 * lab r p w + cm w) (lab r p) k
          have hW := rlr_WF h.2 hp (rl_o (lv := lf r) (key := fun w => 8 * lab r p w + cm w) (fun w hw => (h.2.hb hp hw).2) k (by omega))
          have h' := RS.set hW (mrow μ (10, 0) T)
          have hl := (h.2.hb hp hk).2
          have hlab : lab (rlr (rl (lf r) (fun w => 8 * lab r p w + cm w) (lab r p) k).2.2 p N r) p k = lab r p k := by
            rw [rlr_lab hb.2.2.2.1 hk (by rw [ho k (Nat.le_refl k)]; omega), if_pos rfl, ho k (Nat.le_refl k)]
          have hlf : lf (rlr (rl (lf r) (fun w => 8 * lab r p w + cm w) (lab r p) k).2.2 p N r) k = lf r k := rlr_lf (by omega)
          by_cases hL : lf r k = true
          · have hck := hc k hk hL
            have h8 := hc8 k hk
            have hTk := hT (8 * lab r p k + cm k) (by omega)
            have hbk := hz.2 (8 * lab r p k + cm k)
            by_cases h0 : (rl (lf r) (fun w => 8 * lab r p w + cm w) (lab r p) k).2.1 (8 * lab r p k + cm k) = 0
            · rw [rl_z hL h0]
              refine ⟨(mrow (mrow μ (10, 0) (upd T (8 * lab r p k + cm k) (nI ((rl (lf r) (fun w => 8 * lab r p w + cm w) (lab r p) k).1 + 1)))) (1, 0) (rlr (updN (rl (lf r) (fun w => 8 * lab r p w + cm w) (lab r p) k).2.2 k (rl (lf r) (fun w => 8 * lab r p w + cm w) (lab r p) k).1) p N r), nI ((rl (lf r) (fun w => 8 * lab r p w + cm w) (lab r p) k).1 + 1), nI (k + 1)), ?_, _, rfl, ?_, ?_⟩
              · show f_X11_parts_L28 (nI p) (mrow (mrow μ (10, 0) T) (1, 0) (rlr (rl (lf r) (fun w => 8 * lab r p w + cm w) (lab r p) k).2.2 p N r)) (nI (rl (lf r) (fun w => 8 * lab r p w + cm w) (lab r p) k).1) (nI k) = _
                simp (disch := omega) only [Option.bind_some, Option.map_some, Option.bind_none, q_lit, nI_add, pk_mul, q_sub, q_addn, q_cl, q_le, q_lt, q_eq, q_ck, q_cd, q_cb0, q_cb1, q_div, q_rem, q_shl1, q_shr, q_and, q_or, q_tb, if_pos, if_neg, if_true, if_false, not_true, not_false_iff, eq_self, Bool.true_eq_false, Bool.false_eq_true, q_bI0, q_bI1, q_cbI, Nat.or_zero, mst_row, mrow_neA, mrow_neB, mrow_self, q_upd, f_X11_parts_L28, f_X11_parts_J86, q_worlds h', q_isLeft h' hk, q_label h' hp hk, hlab, hlf, hL, hck, hTk, h0, mrow_mrow, mrow_swA, rlr_upd hk, Nat.add_sub_cancel]
              · intro i hi
                rw [q_upd]
                show _ = nI (updN _ _ _ i)
                rw [updN_ap]
                by_cases e : i = 8 * lab r p k + cm k
                · rw [if_pos e, if_pos e]
                · rw [if_neg e, if_neg e]; exact hT i hi
              · intro w hw
                show updN _ _ _ w = _
                rw [updN_ap, if_neg (by omega)]; exact ho w (by omega)
            · rw [rl_p hL h0]
              refine ⟨(mrow (mrow μ (10, 0) T) (1, 0) (rlr (updN (rl (lf r) (fun w => 8 * lab r p w + cm w) (lab r p) k).2.2 k ((rl (lf r) (fun w => 8 * lab r p w + cm w) (lab r p) k).2.1 (8 * lab r p k + cm k) - 1)) p N r), nI (rl (lf r) (fun w => 8 * lab r p w + cm w) (lab r p) k).1, nI (k + 1)), ?_, _, rfl, hT, ?_⟩
              · show f_X11_parts_L28 (nI p) (mrow (mrow μ (10, 0) T) (1, 0) (rlr (rl (lf r) (fun w => 8 * lab r p w + cm w) (lab r p) k).2.2 p N r)) (nI (rl (lf r) (fun w => 8 * lab r p w + cm w) (lab r p) k).1) (nI k) = _
                simp (disch := omega) only [Option.bind_some, Option.map_some, Option.bind_none, q_lit, nI_add, pk_mul, q_sub, q_addn, q_cl, q_le, q_lt, q_eq, q_ck, q_cd, q_cb0, q_cb1, q_div, q_rem, q_shl1, q_shr, q_and, q_or, q_tb, if_pos, if_neg, if_true, if_false, not_true, not_false_iff, eq_self, Bool.true_eq_false, Bool.false_eq_true, q_bI0, q_bI1, q_cbI, Nat.or_zero, mst_row, mrow_neA, mrow_neB, mrow_self, q_upd, f_X11_parts_L28, f_X11_parts_J86, q_worlds h', q_isLeft h' hk, q_label h' hp hk, hlab, hlf, hL, hck, hTk, h0, mrow_mrow, mrow_swA, rlr_upd hk]
              · intro w hw
                show updN _ _ _ w = _
                rw [updN_ap, if_neg (by omega)]; exact ho w (by omega)
          · have hL := Bool.not_eq_true _ ▸ hL
            rw [rl_n hL]
            refine ⟨(_, _, nI (k + 1)), ?_, T, rfl, hT, fun w hw => ho w (by omega)⟩
            show f_X11_parts_L28 (nI p) (mrow (mrow μ (10, 0) T) (1, 0) (rlr (rl (lf r) (fun w => 8 * lab r p w + cm w) (lab r p) k).2.2 p N r)) (nI (rl (lf r) (fun w => 8 * lab r p w + cm w) (lab r p) k).1) (nI k) = _
            simp (disch := omega) only [Option.bind_some, Option.map_some, Option.bind_none, q_lit, nI_add, pk_mul, q_sub, q_addn, q_cl, q_le, q_lt, q_eq, q_ck, q_cd, q_cb0, q_cb1, q_div, q_rem, q_shl1, q_shr, q_and, q_or, q_tb, if_pos, if_neg, if_true, if_false, not_true, not_false_iff, eq_self, Bool.true_eq_false, Bool.false_eq_true, q_bI0, q_bI1, q_cbI, Nat.or_zero, mst_row, mrow_neA, mrow_neB, mrow_self, q_upd, f_X11_parts_L28, q_worlds h', q_isLeft h' hk, hlf, hL]
        · rintro _ ⟨T, rfl, hT, ho⟩
          have hW := rlr_WF h.2 hp (rl_o (lv := lf r) (key := fun w => 8 * lab r p w + cm w) (fun w hw => (h.2.hb hp hw).2) N (Nat.le_refl N))
          have h' := RS.set hW (mrow μ (10, 0) T)
          refine ⟨_, ?_, T, rfl⟩
          show f_X11_parts_L28 (nI p) (mrow (mrow μ (10, 0) T) (1, 0) (rlr (rl (lf r) (fun w => 8 * lab r p w + cm w) (lab r p) N).2.2 p N r)) (nI (rl (lf r) (fun w => 8 * lab r p w + cm w) (lab r p) N).1) (nI N) = _
          simp (disch := omega) only [Option.bind_some, Option.map_some, Option.bind_none, q_lit, nI_add, pk_mul, q_sub, q_addn, q_cl, q_le, q_lt, q_eq, q_ck, q_cd, q_cb0, q_cb1, q_div, q_rem, q_shl1, q_shr, q_and, q_or, q_tb, if_pos, if_neg, if_true, if_false, not_true, not_false_iff, eq_self, Bool.true_eq_false, Bool.false_eq_true, q_bI0, q_bI1, q_cbI, Nat.or_zero, mst_row, mrow_neA, mrow_neB, mrow_self, q_upd, f_X11_parts_L28, q_worlds h', Nat.le_refl]
          rfl
      obtain ⟨μ', h1, h2⟩ := hh
      exact ⟨μ', by show f_X11_parts_L2 (nI p) (mrow μ (10, 0) R) (nI 4096) = _; rw [e, h1]; rfl, h2⟩
  obtain ⟨_, e, T, rfl⟩ := hh
  exact ⟨T, e⟩
end REFC
