-- what stays as it was
def Fr (S : List Nat) (μ μ' : Mm) : Prop := ∀ k, k ∉ S → μ' (k, 0) = μ (k, 0)
theorem Fr.rf {S : List Nat} {μ : Mm} : Fr S μ μ := fun _ _ => rfl
theorem Fr.tr {S : List Nat} {μ a b : Mm} (h : Fr S μ a) (h2 : Fr S a b) : Fr S μ b := fun k hk => (h2 k hk).trans (h k hk)
theorem Fr.mr {S : List Nat} {μ a : Mm} {k : Nat} {f : Nat → Int32} (h : Fr S μ a) (hk : k ∈ S) : Fr S μ (mrow a (k, 0) f) := fun j hj => by
  have hne : k ≠ j := fun e => hj (e ▸ hk)
  rw [mrow_neA hne]
  exact h j hj
theorem Fr.mono {S S' : List Nat} {μ a : Mm} (h : Fr S μ a) (hs : ∀ k, k ∈ S → k ∈ S') : Fr S' μ a := fun k hk => h k (fun x => hk (hs k x))
/-- rows that say the same of the worlds, the marks, who sees whom -/
def Sam (r r' : Nat → Int32) : Prop := ∀ i, 10 ≤ i → i < 5140 → r' i = r i
theorem Sam.rf {r : Nat → Int32} : Sam r r := fun _ _ _ => rfl
theorem Sam.tr {r a b : Nat → Int32} (h : Sam r a) (h2 : Sam a b) : Sam r b := fun i h0 h1 => (h2 i h0 h1).trans (h i h0 h1)
theorem Sam.sy {r a : Nat → Int32} (h : Sam r a) : Sam a r := fun i h0 h1 => (h i h0 h1).symm
theorem Sam.lf {r r' : Nat → Int32} (h : Sam r r') {w : Nat} (hw : w < 512) : lf r' w = lf r w := by
  show decide _ = decide _
  rw [h (20 + w) (by omega) (by omega)]
theorem Sam.lab {r r' : Nat → Int32} (h : Sam r r') {p w : Nat} (hp : p < 9) (hw : w < 512) : lab r' p w = lab r p w := by
  show Int32.toNatClampNeg _ = Int32.toNatClampNeg _
  rw [h (532 + 512 * p + w) (by omega) (by omega)]
theorem Sam.se {r r' : Nat → Int32} (h : Sam r r') {p : Nat} (hp : p < 9) : se r' p = se r p := by
  show Int32.toNatClampNeg _ = Int32.toNatClampNeg _
  rw [h (11 + p) (by omega) (by omega)]
theorem WF.chg {V n N w0 : Nat} {r r' : Nat → Int32} (h : WF V n N w0 r) (e : Sam r r') (e0 : r' 0 = r 0) (e1 : r' 1 = r 1) (e6 : r' 6 = r 6) (e9 : ∃ g, g ≤ 60 ∧ r' 9 = nI g) (e3 : r' 3 = nI 0 ∨ r' 3 = nI 1) (e7 : r' 7 = nI 0 ∨ r' 7 = nI 1) (e8 : r' 8 = nI 0 ∨ r' 8 = nI 1) : WF V n N w0 r' := by
  have hb := h.b
  refine ⟨h.1, ⟨?_, ?_, ?_, ?_⟩, ?_, ?_, ?_, ?_, e9, e3, e7, e8⟩
  · rw [e0]; exact h.v0
  · rw [e1]; exact h.v1
  · rw [e 10 (by omega) (by omega)]; exact h.v10
  · rw [e6]; exact h.v6
  · intro w hw
    rw [e.lf (by omega), e (20 + w) (by omega) (by omega)]; exact h.hl hw
  · rw [e.lf (by omega)]; exact h.h0
  · intro p w hp hw
    rw [e.lab (by omega) (by omega), e _ (by omega) (by omega)]; exact h.hb hp hw
  · intro p hp
    rw [e.se (by omega), e _ (by omega) (by omega)]; exact h.hs hp
theorem suR_sam {r r' : Nat → Int32} (e : Sam r r') {V n N p w : Nat} (hN : N ≤ 512) (hp : p < 9) (hw : w < N) : suR r' V n N p w = suR r V n N p w := by
  unfold suR
  rw [e.lab hp (by omega)]
  exact congrArg sur (poss_congr (fun u hu => e.lf (by omega)) (fun u hu _ => e.lab hp (by omega)) (fun u _ => rfl))
theorem suO_sam {r r' : Nat → Int32} (e : Sam r r') {V n N w m : Nat} (hN : N ≤ 512) (hm : m ≤ 9) (hw : w < N) : suO r' V n N w m = suO r V n N w m := by
  refine orN_congr (fun p hp => ?_)
  rw [suR_sam e hN (by omega) hw]
/-- one sees a back -/
def rse (p q : Nat) (r : Nat → Int32) : Nat → Int32 := upd r (11 + p) (nI (se r p ||| 2 ^ q))
theorem rse_ne {p q : Nat} {r : Nat → Int32} {i : Nat} (h : i ≠ 11 + p) : rse p q r i = r i := by
  unfold rse
  rw [q_upd, if_neg h]
theorem rse_or {V n N w0 : Nat} {r : Nat → Int32} {p q : Nat} (h : WF V n N w0 r) (hp : p < n) (hq : q < n) : se r p ||| 2 ^ q < 2 ^ n := Nat.or_lt_two_pow (h.hs hp).2 (Nat.pow_lt_pow_right (by decide) hq)
theorem rse_lt {V n N w0 : Nat} {r : Nat → Int32} {p q : Nat} (h : WF V n N w0 r) (hp : p < n) (hq : q < n) : se r p ||| 2 ^ q < 512 := by
  have hb := h.b
  have := rse_or h hp hq
  have h2 : 2 ^ n ≤ 2 ^ 9 := Nat.pow_le_pow_right (by decide) hb.2.2.2.2.1
  omega
theorem rse_se {V n N w0 : Nat} {r : Nat → Int32} {p q : Nat} (h : WF V n N w0 r) (hp : p < n) (hq : q < n) (a : Nat) : se (rse p q r) a = if a = p then se r p ||| 2 ^ q else se r a := by
  have := rse_lt h hp hq
  by_cases e : a = p
  · subst e
    show Int32.toNatClampNeg (upd r (11 + a) _ (11 + a)) = _
    rw [q_upd, if_pos rfl, if_pos rfl, q_cl (by omega)]
  · rw [if_neg e]
    show Int32.toNatClampNeg _ = Int32.toNatClampNeg _
    rw [rse_ne (by omega)]
theorem rse_lf {p q : Nat} {r : Nat → Int32} (hp : p < 9) (w : Nat) : lf (rse p q r) w = lf r w := by
  unfold lf
  rw [rse_ne (by omega)]
theorem rse_lab {p q : Nat} {r : Nat → Int32} (hp : p < 9) (a w : Nat) : lab (rse p q r) a w = lab r a w := by
  unfold lab
  rw [rse_ne (by omega)]
theorem rse_WF {V n N w0 : Nat} {r : Nat → Int32} {p q : Nat} (h : WF V n N w0 r) (hp : p < n) (hq : q < n) : WF V n N w0 (rse p q r) := by
  have hb := h.b
  refine ⟨h.1, ⟨?_, ?_, ?_, ?_⟩, ?_, ?_, ?_, ?_, ?_, ?_, ?_, ?_⟩
  · rw [rse_ne (by omega)]; exact h.v0
  · rw [rse_ne (by omega)]; exact h.v1
  · rw [rse_ne (by omega)]; exact h.v10
  · rw [rse_ne (by omega)]; exact h.v6
  · intro w hw
    rw [rse_lf (by omega), rse_ne (by omega)]; exact h.hl hw
  · rw [rse_lf (by omega)]; exact h.h0
  · intro a w ha hw
    rw [rse_lab (by omega), rse_ne (by omega)]; exact h.hb ha hw
  · intro a ha
    rw [rse_se h hp hq]
    by_cases e : a = p
    · subst e
      rw [if_pos rfl]
      refine ⟨?_, rse_or h hp hq⟩
      show upd r (11 + a) _ (11 + a) = _
      rw [q_upd, if_pos rfl]
    · rw [if_neg e, rse_ne (by omega)]; exact h.hs ha
  · rw [rse_ne (by omega)]; exact h.hg
  · rw [rse_ne (by omega)]; exact h.2.2.2.2.2.2.2.1
  · rw [rse_ne (by omega)]; exact h.2.2.2.2.2.2.2.2.1
  · rw [rse_ne (by omega)]; exact h.2.2.2.2.2.2.2.2.2
/-- one tells apart worlds in which cm is unlike -/
def rpt (cm : Nat → Nat) (N p : Nat) (r : Nat → Int32) : Nat → Int32 := rlr (relab cm N p r) p N r
theorem rpt_WF {V n N w0 : Nat} {r : Nat → Int32} {p : Nat} (h : WF V n N w0 r) (hp : p < n) (cm : Nat → Nat) : WF V n N w0 (rpt cm N p r) := rlr_WF h hp (relab_lt h hp cm)
/-- a row is told -/
def lgd (r : Nat → Int32) : Nat := (r 9).toNatClampNeg
def tel (a b c d e : Int32) (r : Nat → Int32) : Nat → Int32 := fun i =>
  if 5140 ≤ i ∧ i < 5440 then (if i = 5140 then a else if i = 5141 then b else if i = 5142 then c else if i = 5143 then d else if i = 5144 then e else r (i - 5)) else if i = 9 then nI (if lgd r + 1 < 60 then lgd r + 1 else 60) else r i
theorem tel_ne {a b c d e : Int32} {r : Nat → Int32} {i : Nat} (h : i < 5140 ∨ 5440 ≤ i) (h9 : i ≠ 9) : tel a b c d e r i = r i := by
  unfold tel
  rw [if_neg (by omega), if_neg h9]
theorem tel_sam {a b c d e : Int32} {r : Nat → Int32} : Sam r (tel a b c d e r) := fun i h0 h1 => tel_ne (by omega) (by omega)
theorem tel_9 {a b c d e : Int32} {r : Nat → Int32} : tel a b c d e r 9 = nI (if lgd r + 1 < 60 then lgd r + 1 else 60) := by
  unfold tel
  rw [if_neg (by omega), if_pos rfl]
theorem WF.hlg {V n N w0 : Nat} {r : Nat → Int32} (h : WF V n N w0 r) : r 9 = nI (lgd r) ∧ lgd r ≤ 60 := by
  obtain ⟨g, hg, e⟩ := h.hg
  have : lgd r = g := by
    show Int32.toNatClampNeg _ = _
    rw [e, q_cl (by omega)]
  rw [this]
  exact ⟨e, hg⟩
theorem tel_WF {V n N w0 : Nat} {r : Nat → Int32} (a b c d e : Int32) (h : WF V n N w0 r) : WF V n N w0 (tel a b c d e r) := by
  refine h.chg tel_sam (tel_ne (by omega) (by omega)) (tel_ne (by omega) (by omega)) (tel_ne (by omega) (by omega)) ⟨_, ?_, tel_9⟩ ?_ ?_ ?_
  · split <;> omega
  · rw [tel_ne (by omega) (by omega)]; exact h.2.2.2.2.2.2.2.1
  · rw [tel_ne (by omega) (by omega)]; exact h.2.2.2.2.2.2.2.2.1
  · rw [tel_ne (by omega) (by omega)]; exact h.2.2.2.2.2.2.2.2.2
section REFD
variable {μ : Mm} {V n N w0 : Nat} {r : Nat → Int32}
theorem q_seesFrom (h : RS μ V n N w0 r) {p q : Nat} (hp : p < n) (hq : q < n) : ∃ μ', f_X11_seesFrom μ (nI p) (nI q) = some μ' ∧ RS μ' V n N w0 (rpt (fig V n q) N p (rse p q r)) ∧ Fr [1, 8, 9, 10] μ μ' := by
  have hb := h.2.b
  have hs := se_lt h.2 hp
  have hW := rse_WF h.2 hp hq
  have h1 := RS.set hW μ
  obtain ⟨C, e1, hC⟩ := q_noticesCome h1 hq
  have h2 := h1.row (a := 9) (b := 0) C (by omega)
  obtain ⟨T, e2⟩ := q_parts h2 hp (cm := fig V n q) (fun w hw _ => by rw [mrow_self]; exact hC w hw) (fun w _ => by have := fig_lt hb.1 n q w; omega)
  have e3 : upd r (11 + p) (nI (se r p ||| 2 ^ q)) = rse p q r := rfl
  have e : f_X11_seesFrom μ (nI p) (nI q) = some (mrow (mrow (mrow (mrow μ (1, 0) (rse p q r)) (9, 0) C) (10, 0) T) (1, 0) (rlr (relab (fig V n q) N p (rse p q r)) p N (rse p q r))) := by
    simp (disch := omega) only [Option.bind_some, Option.map_some, Option.bind_none, q_lit, nI_add, pk_mul, q_sub, q_addn, q_cl, q_le, q_lt, q_eq, q_ck, q_cd, q_cb0, q_cb1, q_div, q_rem, q_shl1, q_shr, q_and, q_or, q_tb, if_pos, if_neg, if_true, if_false, not_true, not_false_iff, eq_self, Bool.true_eq_false, Bool.false_eq_true, q_bI0, q_bI1, q_cbI, Nat.or_zero, mst_row, mrow_neA, mrow_neB, mrow_self, q_upd, f_X11_seesFrom, h.1, (h.2.hs hp).1, e3, e1, e2]
  exact ⟨_, e, RS.set (rpt_WF hW hp _) _, (by repeat first | exact Fr.rf | refine Fr.mr ?_ (by decide))⟩
theorem q_tells (h : RS μ V n N w0 r) (a b c d : Int32) : ∃ μ', f_X11_tells μ a b c d = some μ' ∧ RS μ' V n N w0 (tel a b c d (nI (suO r V n N w0 n)) r) ∧ Fr [1, 8] μ μ' := by
  have hb := h.2.b
  have hl := h.2.hlg
  unfold f_X11_tells
  refine Wh_inv1 295 (fun k s => s = (mrow μ (1, 0) (fun i => if 5439 - k < i ∧ i < 5440 then r (i - 5) else r i), nI (299 - k))) _ ?_ ?_ ?_
  · have : (fun i => if 5439 - 0 < i ∧ i < 5440 then r (i - 5) else r i) = r := by funext i; exact if_neg (by omega)
    rw [this, ← h.1, mrow_id]
    rfl
  · rintro k _ hk rfl
    refine ⟨_, ?_, rfl⟩
    show f_X11_tells_L5 a b c d (mrow μ (1, 0) (fun i => if 5439 - k < i ∧ i < 5440 then r (i - 5) else r i)) (nI (299 - k)) = _
    have e : upd (fun i => if 5439 - k < i ∧ i < 5440 then r (i - 5) else r i) (5140 + (299 - k)) (r (5140 + (299 - k) - 5)) = (fun i => if 5439 - (k + 1) < i ∧ i < 5440 then r (i - 5) else r i) := by
      funext i
      rw [q_upd]
      by_cases hi : i = 5140 + (299 - k)
      · rw [if_pos hi, if_pos (by omega), hi]
      · rw [if_neg hi]
        by_cases c : 5439 - k < i ∧ i < 5440
        · rw [if_pos c, if_pos (by omega)]
        · rw [if_neg c, if_neg (by omega)]
    have e2 : (if 5439 - k < 5140 + (299 - k) - 5 ∧ 5140 + (299 - k) - 5 < 5440 then r (5140 + (299 - k) - 5 - 5) else r (5140 + (299 - k) - 5)) = r (5140 + (299 - k) - 5) := if_neg (by omega)
    simp (disch := omega) only [Option.bind_some, Option.map_some, Option.bind_none, q_lit, nI_add, pk_mul, q_sub, q_addn, q_cl, q_le, q_lt, q_eq, q_ck, q_cd, q_cb0, q_cb1, q_div, q_rem, q_shl1, q_shr, q_and, q_or, q_tb, if_pos, if_neg, if_true, if_false, not_true, not_false_iff, eq_self, Bool.true_eq_false, Bool.false_eq_true, q_bI0, q_bI1, q_cbI, Nat.or_zero, mst_row, mrow_neA, mrow_neB, mrow_self, q_upd, f_X11_tells_L5, mrow_mrow, e2, e]
    rw [show 299 - k - 1 = 299 - (k + 1) by omega]
  · rintro _ rfl
    obtain ⟨ρ, hρ⟩ : ∃ ρ, ρ = (fun i => if 5439 - 295 < i ∧ i < 5440 then r (i - 5) else r i) := ⟨_, rfl⟩
    obtain ⟨ρ2, hρ2⟩ : ∃ ρ2, ρ2 = upd (upd (upd (upd ρ 5140 a) 5141 b) 5142 c) 5143 d := ⟨_, rfl⟩
    have hne : ∀ i, i < 5140 → ρ2 i = r i := fun i hi => by
      rw [hρ2, q_upd, if_neg (by omega), q_upd, if_neg (by omega), q_upd, if_neg (by omega), q_upd, if_neg (by omega), hρ]
      exact if_neg (by omega)
    have hs2 : Sam r ρ2 := fun i _ h1 => hne i h1
    have hW2 : WF V n N w0 ρ2 := h.2.chg hs2 (hne _ (by omega)) (hne _ (by omega)) (hne _ (by omega)) (by rw [hne _ (by omega)]; exact h.2.hg) (by rw [hne _ (by omega)]; exact h.2.2.2.2.2.2.2.2.1) (by rw [hne _ (by omega)]; exact h.2.2.2.2.2.2.2.2.2.1) (by rw [hne _ (by omega)]; exact h.2.2.2.2.2.2.2.2.2.2)
    have h2 := RS.set hW2 μ
    obtain ⟨R, e⟩ := q_sureOnes h2 hb.2.2.2.2.2 hW2.h0
    have h9 : ρ2 9 = nI (lgd r) := by rw [hne _ (by omega)]; exact hl.1
    have e5 : upd (upd ρ2 5144 (nI (suO ρ2 V n N w0 n))) 9 (nI (if lgd r + 1 < 60 then lgd r + 1 else 60)) = tel a b c d (nI (suO r V n N w0 n)) r := by
      rw [suO_sam hs2 hb.2.2.2.1 hb.2.2.2.2.1 hb.2.2.2.2.2]
      funext i
      unfold tel
      rw [q_upd, q_upd, hρ2, q_upd, q_upd, q_upd, q_upd, hρ]
      dsimp only
      by_cases h9 : i = 9
      · subst h9
        rfl
      · rw [if_neg h9, if_neg h9]
        by_cases c : 5140 ≤ i ∧ i < 5440
        · rw [if_pos c]
          by_cases c1 : i = 5144
          · subst c1; rfl
          · rw [if_neg c1, if_neg c1]
            by_cases c2 : i = 5143
            · subst c2; rfl
            · rw [if_neg c2, if_neg c2]
              by_cases c3 : i = 5142
              · subst c3; rfl
              · rw [if_neg c3, if_neg c3]
                by_cases c4 : i = 5141
                · subst c4; rfl
                · rw [if_neg c4, if_neg c4]
                  by_cases c5 : i = 5140
                  · rw [if_pos c5, if_pos c5]
                  · rw [if_neg c5, if_neg c5, if_pos (by omega)]
        · rw [if_neg c, if_neg (by omega), if_neg (by omega), if_neg (by omega), if_neg (by omega), if_neg (by omega), if_neg (by omega)]
    have hif : (if lgd r + 1 < 60 then nI (lgd r + 1) else nI 60) = nI (if lgd r + 1 < 60 then lgd r + 1 else 60) := by
      by_cases c : lgd r + 1 < 60
      · rw [if_pos c, if_pos c]
      · rw [if_neg c, if_neg c]
    refine ⟨mrow (mrow μ (1, 0) (tel a b c d (nI (suO r V n N w0 n)) r)) (8, 0) R, ?_, (RS.set (tel_WF _ _ _ _ _ h.2) μ).row _ (by omega), (by repeat first | exact Fr.rf | refine Fr.mr ?_ (by decide))⟩
    show f_X11_tells_L5 a b c d (mrow μ (1, 0) (fun i => if 5439 - 295 < i ∧ i < 5440 then r (i - 5) else r i)) (nI (299 - 295)) = _
    rw [← hρ]
    simp (disch := omega) only [f_X11_tells_L5, q_lit, q_lt, q_ck, q_cl, if_pos, mst_row, mrow_self, mrow_mrow, ← hρ2, q_here h2, Option.bind_some, e, mrow_neA, mrow_swA, q_upd, if_neg, h9, nI_add, Option.map_some]
    rw [hif, e5]
end REFD
