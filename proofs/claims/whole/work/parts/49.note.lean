-- a row is noted
theorem LRk.to {sh : Sh} {μ a : Mm} {j : Nat} {Λo : Option LW} (h : LRk sh μ j Λo) (e8 : a (13, j) 8 = μ (13, j) 8) (eL : ∀ q : Ky, q.1 = 14 ∨ q.1 = 15 → a q = μ q) : LRk sh a j Λo := by
  unfold LRk at *
  cases Λo with
  | none => rw [e8]; exact h
  | some Λ =>
    obtain ⟨i, b, h1, h2, h3, h4, h5⟩ := h
    refine ⟨i, b, by rw [e8]; exact h1, h2, h3, ?_, h5⟩
    unfold LWk at *
    rw [eL _ (Or.inl rfl), eL _ (Or.inr rfl)]
    exact h4
theorem CS.to {ln : Nat → Nat} {μ a : Mm} {j V n N w0 : Nat} {r r' : Nat → Int32} (h : CS ln μ j V n N w0 r) (hW : WF V n N w0 r') (e : Sam r r') (e13 : ∀ i, i < 4 → a (13, j) i = μ (13, j) i) (e12 : ∀ i, i < 4 → a (12, 15 + 5 * j + i) = μ (12, 15 + 5 * j + i)) : CS ln a j V n N w0 r' := by
  have hb := h.1.b
  obtain ⟨h1, h2, h3, h4, h5, h6⟩ := h
  refine ⟨hW, ?_, h3, ?_, ?_, ?_⟩
  · rw [e13 0 (by omega), e13 1 (by omega), e13 2 (by omega), e13 3 (by omega)]; exact h2
  · intro p hp
    rw [e12 0 (by omega), e12 1 (by omega), e _ (by omega) (by omega)]; exact h4 p hp
  · intro w hw
    rw [e12 2 (by omega), e _ (by omega) (by omega)]; exact h5 w hw
  · intro p w hp hw
    rw [e12 3 (by omega), e _ (by omega) (by omega)]; exact h6 p w hp hw
theorem tel_0 {a b c d e : Int32} {r : Nat → Int32} : tel a b c d e r 5140 = a ∧ tel a b c d e r 5141 = b ∧ tel a b c d e r 5142 = c ∧ tel a b c d e r 5143 = d ∧ tel a b c d e r 5144 = e := by
  unfold tel
  exact ⟨rfl, rfl, rfl, rfl, rfl⟩
theorem tel_s {a b c d e : Int32} {r : Nat → Int32} {i : Nat} (h1 : 5145 ≤ i) (h2 : i < 5440) : tel a b c d e r i = r (i - 5) := by
  unfold tel
  rw [if_pos (by omega), if_neg (by omega), if_neg (by omega), if_neg (by omega), if_neg (by omega), if_neg (by omega)]
theorem tel_lgd {a b c d e : Int32} {r : Nat → Int32} : lgd (tel a b c d e r) = if lgd r + 1 < 60 then lgd r + 1 else 60 := by
  show Int32.toNatClampNeg _ = _
  rw [tel_9, q_cl]
  split <;> omega
section NOTE
variable {sh : Sh} {ln : Nat → Nat} {μ : Mm} {j V n N w0 : Nat} {r : Nat → Int32} {Λo : Option LW}
theorem k_noteA (h : STR sh ln μ j V n N w0 r Λo) (hB : LB ln) (hj : j < 11) (a b c d e : Int32) :
    ∃ ln' m kc ks, f_X6_noteA sh ln j μ a b c d e = some ((0, ln', m), kc, ks) ∧ GR j ln ln' kc ks ∧ STR sh ln' m j V n N w0 (tel a b c d e r) Λo ∧ FrS j μ m := by
  obtain ⟨hC, hG, hK, hR, h4, h5, h6, h7⟩ := h
  have hl := hC.1.hlg
  obtain ⟨ln', m0, kc, ks, e0, hGr, hlen, hF0, hold⟩ := k_growA (sh := sh) (ln := ln) (c := 15 + 5 * j + 4) (m := 300) (dd := j) (μ := μ) (by omega) (by omega) (hB.le (by omega)) (Or.inr sz_300)
  have hB' := hB.gr hGr
  have hl4 := hB'.le (c := 15 + 5 * j + 4) (by omega)
  have e13 : ∀ x, m0 (13, x) = μ (13, x) := fun x => hF0.st (by omega)
  obtain ⟨g14, t, ht, g15, glen, gv⟩ := hG
  obtain ⟨F, hF⟩ : ∃ F, F = upd (upd (upd (upd (upd (m0 (12, 15 + 5 * j + 4)) (t * 5) a) (t * 5 + 1) b) (t * 5 + 2) c) (t * 5 + 3) d) (t * 5 + 4) e := ⟨_, rfl⟩
  have p1 : f_X1_put sh ln' (15 + 5 * j + 4) m0 (nI (t * 5)) a = some (mrow m0 (12, 15 + 5 * j + 4) (upd (m0 (12, 15 + 5 * j + 4)) (t * 5) a)) := k_put (by omega) (by omega)
  have pS : ∀ G x v, x < 300 → f_X1_put sh ln' (15 + 5 * j + 4) (mrow m0 (12, 15 + 5 * j + 4) G) (nI x) v = some (mrow m0 (12, 15 + 5 * j + 4) (upd G x v)) := fun G x v hx => by
    rw [k_put (by omega) (by omega), mrow_mrow, mrow_self]
  have g15' : ∀ G, mrow m0 (12, 15 + 5 * j + 4) G (13, j) 15 = nI t := fun G => by rw [mrow_neA (by omega), e13, g15]
  have g14' : ∀ G, mrow m0 (12, 15 + 5 * j + 4) G (13, j) 14 = nI (lgd r) := fun G => by rw [mrow_neA (by omega), e13, g14]
  -- the end
  obtain ⟨t', ht'⟩ : ∃ t', t' = if t + 1 < 60 then t + 1 else 0 := ⟨_, rfl⟩
  obtain ⟨g', hg'⟩ : ∃ g', g' = if lgd r + 1 < 60 then lgd r + 1 else 60 := ⟨_, rfl⟩
  have ht60 : t' < 60 := by rw [ht']; split <;> omega
  have key : f_X6_noteA sh ln j μ a b c d e = some ((0, ln', mrow (mrow m0 (12, 15 + 5 * j + 4) F) (13, j) (upd (upd (μ (13, j)) 15 (nI t')) 14 (nI g'))), kc, ks) := by
    rw [f_X6_noteA]
    rw [show (300 : Int32) = nI 300 from rfl, e0, Option.bind_some]
    have e15 : m0 (13, j) 15 = nI t := by rw [e13, g15]
    have q1 : nI t * (5 : Int32) = nI (t * 5) := by rw [show (5 : Int32) = nI 5 from rfl, pk_mul]
    simp only [e15, g15', g14', q1]
    rw [p1, Option.bind_some]
    rw [show nI (t * 5) + (1 : Int32) = nI (t * 5 + 1) from nI_add _ _, show nI (t * 5) + (2 : Int32) = nI (t * 5 + 2) from nI_add _ _, show nI (t * 5) + (3 : Int32) = nI (t * 5 + 3) from nI_add _ _, show nI (t * 5) + (4 : Int32) = nI (t * 5 + 4) from nI_add _ _]
    rw [pS _ _ _ (by omega), Option.bind_some, pS _ _ _ (by omega), Option.bind_some, pS _ _ _ (by omega), Option.bind_some, pS _ _ _ (by omega), Option.bind_some, ← hF, g15']
    rw [show nI t + (1 : Int32) = nI (t + 1) from nI_add _ _]
    have hm : ∀ x, mst (mrow m0 (12, 15 + 5 * j + 4) F) (13, j) 15 x (13, j) 14 = nI (lgd r) := fun x => by rw [mst_row, mrow_self, q_upd, if_neg (by omega), g14']
    have hmin : (if (60 : Int32) < nI (lgd r) + (1 : Int32) then (60 : Int32) else nI (lgd r) + (1 : Int32)) = nI g' := by
      rw [show nI (lgd r) + (1 : Int32) = nI (lgd r + 1) from nI_add _ _, show (60 : Int32) = nI 60 from rfl]
      have hq : (nI 60 < nI (lgd r + 1)) = (60 < lgd r + 1) := q_lt (by omega) (by omega)
      by_cases cc : 60 < lgd r + 1
      · rw [if_pos (hq.mpr cc), hg', if_neg (by omega)]
      · rw [if_neg (fun x => cc (hq.mp x)), hg']
        by_cases c2 : lgd r + 1 < 60
        · rw [if_pos c2]
        · rw [if_neg c2, show lgd r + 1 = 60 by omega]
    have hq : ((60 : Int32) ≤ nI (t + 1)) = (60 ≤ t + 1) := q_le (a := 60) (b := t + 1) (by omega) (by omega)
    have hfin : ∀ x, mst (mst (mrow m0 (12, 15 + 5 * j + 4) F) (13, j) 15 x) (13, j) 14 (nI g') = mrow (mrow m0 (12, 15 + 5 * j + 4) F) (13, j) (upd (upd (μ (13, j)) 15 x) 14 (nI g')) := fun x => by
      rw [mst_row, mst_row, mrow_mrow, mrow_self, mrow_neA (by omega), e13]
    by_cases cc : 60 ≤ t + 1
    · rw [if_pos (hq.mpr cc), Option.bind_some, hm, hmin, hfin, ht', if_neg (by omega)]
      rfl
    · rw [if_neg (fun x => cc (hq.mp x)), Option.bind_some, hm, hmin, hfin, ht', if_pos (by omega)]
      rfl
  have hF1 : ∀ x, x < 300 → F x = if x / 5 = t then tel a b c d e r (5140 + x % 5) else m0 (12, 15 + 5 * j + 4) x := by
    intro x hx
    rw [hF, q_upd, q_upd, q_upd, q_upd, q_upd]
    obtain ⟨t0, t1, t2, t3, t4⟩ := tel_0 (a := a) (b := b) (c := c) (d := d) (e := e) (r := r)
    by_cases cc : x / 5 = t
    · rw [if_pos cc]
      have : x % 5 = 0 ∨ x % 5 = 1 ∨ x % 5 = 2 ∨ x % 5 = 3 ∨ x % 5 = 4 := by omega
      rcases this with y | y | y | y | y
      · rw [y, if_neg (by omega), if_neg (by omega), if_neg (by omega), if_neg (by omega), if_pos (by omega)]; exact t0.symm
      · rw [y, if_neg (by omega), if_neg (by omega), if_neg (by omega), if_pos (by omega)]; exact t1.symm
      · rw [y, if_neg (by omega), if_neg (by omega), if_pos (by omega)]; exact t2.symm
      · rw [y, if_neg (by omega), if_pos (by omega)]; exact t3.symm
      · rw [y, if_pos (by omega)]; exact t4.symm
    · rw [if_neg (by omega), if_neg (by omega), if_neg (by omega), if_neg (by omega), if_neg (by omega), if_neg cc]
  have m13 : ∀ x, x ≠ 14 → x ≠ 15 → mrow (mrow m0 (12, 15 + 5 * j + 4) F) (13, j) (upd (upd (μ (13, j)) 15 (nI t')) 14 (nI g')) (13, j) x = μ (13, j) x := fun x h1 h2 => by
    rw [mrow_self, q_upd, if_neg h1, q_upd, if_neg h2]
  have mfr : FrS j μ (mrow (mrow m0 (12, 15 + 5 * j + 4) F) (13, j) (upd (upd (μ (13, j)) 15 (nI t')) 14 (nI g'))) := by
    intro q e0 e1 e2 e3
    unfold mrow
    rw [if_neg e3, if_neg (fun y => e2 (by subst y; exact ⟨rfl, by omega, by omega⟩))]
    exact hF0 q (fun y => e2 ⟨y.1, by have := y.2; omega, by have := y.2; omega⟩)
  refine ⟨ln', _, kc, ks, key, hGr, ⟨?_, ?_, ?_, hR.sl SL.tel, ?_, ?_, ?_, ?_⟩, mfr⟩
  · exact (hC.gr hB hGr).to (tel_WF a b c d e hC.1) tel_sam (fun i hi => m13 i (by omega) (by omega)) (fun i hi => by
      rw [mrow_neA (by omega), mrow_neB (by omega), hF0.ce (by omega)])
  · refine ⟨?_, t', ht60, ?_, Or.inr hlen, fun i x hi hx => ?_⟩
    · rw [mrow_self, q_upd, if_pos rfl, tel_lgd, hg']
    · rw [mrow_self, q_upd, if_neg (by omega), q_upd, if_pos rfl]
    · rw [tel_lgd] at hi
      rw [mrow_neA (by omega), mrow_self]
      have hi60 : i < 60 ∧ i < lgd r + 1 := by
        by_cases c2 : lgd r + 1 < 60
        · rw [if_pos c2] at hi; omega
        · rw [if_neg c2] at hi; omega
      have hm1 : (t' + 59 - i) % 60 < 60 := Nat.mod_lt _ (by omega)
      rw [hF1 _ (by omega)]
      have hd : ((t' + 59 - i) % 60 * 5 + x) / 5 = (t' + 59 - i) % 60 := by omega
      have hr : ((t' + 59 - i) % 60 * 5 + x) % 5 = x := by omega
      rw [hd, hr]
      by_cases c0 : i = 0
      · have ht1 : (t' + 59 - i) % 60 = t := by
          rw [ht', c0]; split <;> omega
        rw [if_pos ht1, c0]
      · have ht1 : ¬ (t' + 59 - i) % 60 = t := by
          rw [ht']; split <;> omega
        have ht2 : (t' + 59 - i) % 60 = (t + 59 - (i - 1)) % 60 := by
          rw [ht']; split <;> omega
        have hl3 : 300 ≤ ln (15 + 5 * j + 4) := glen.resolve_left (by omega)
        have hm2 : (t + 59 - (i - 1)) % 60 < 60 := Nat.mod_lt _ (by omega)
        rw [if_neg ht1, ht2, hold _ (by omega), gv (i - 1) x (by omega) hx, tel_s (by omega) (by omega)]
        congr 1
        omega
  · exact hK.to (m13 8 (by omega) (by omega)) (fun q hq => by
      unfold mrow
      rw [if_neg (fun y => by rw [y] at hq; rcases hq with hq | hq <;> injection hq <;> contradiction), if_neg (fun y => by rw [y] at hq; rcases hq with hq | hq <;> injection hq <;> contradiction)]
      exact hF0 q (fun y => by have := y.1; omega))
  · rw [m13 4 (by omega) (by omega), tel_ne (by omega) (by omega)]; exact h4
  · rw [m13 5 (by omega) (by omega), tel_ne (by omega) (by omega)]; exact h5
  · rw [m13 6 (by omega) (by omega), tel_ne (by omega) (by omega)]; exact h6
  · rw [m13 7 (by omega) (by omega), tel_ne (by omega) (by omega), tel_ne (by omega) (by omega)]; exact h7
end NOTE
