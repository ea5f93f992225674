-- undo and back of the class
section UNDK
variable {sh : Sh} {ln : Nat → Nat} {μ : Mm} {j V n N w0 : Nat} {r : Nat → Int32} {Λo : Option LW}
theorem don_SLish (i : Nat) (hi : i ≠ 7) {r : Nat → Int32} : upd r 7 (nI 1) i = r i := by rw [q_upd, if_neg hi]
theorem LRw.don (h : LRw r Λo) : LRw (upd r 7 (nI 1)) Λo := by
  cases Λo with
  | none => show upd r 7 (nI 1) 3 = nI 0; rw [don_SLish 3 (by omega)]; exact h
  | some Λ =>
    obtain ⟨h1, h2, h3⟩ := h
    refine ⟨by rw [don_SLish _ (by omega)]; exact h1, ⟨by rw [don_SLish _ (by omega)]; exact h2.1, fun k hk => ?_, fun i hi => ?_⟩, h3⟩
    · rw [don_SLish _ (by omega), don_SLish _ (by omega), don_SLish _ (by omega)]; exact h2.2.1 k hk
    · rw [don_SLish _ (by omega), don_SLish _ (by omega)]; exact h2.2.2 i hi
/-- a State is closed from now on -/
theorem STR.don (h : STR sh ln μ j V n N w0 r Λo) : STR sh ln (mst μ (13, j) 7 (1 : Int32)) j V n N w0 (upd r 7 (nI 1)) Λo := by
  obtain ⟨g1, g2, g3, g4, g5, g6, g7, g8⟩ := h
  have em : ∀ i, i ≠ 7 → mst μ (13, j) 7 (1 : Int32) (13, j) i = μ (13, j) i := fun i hi => by rw [mst_row, mrow_self, q_upd, if_neg hi]
  refine ⟨g1.to (don_WF g1.1) (fun i h0 h1 => don_SLish i (by omega)) (fun i hi => em i (by omega)) (fun i hi => by rw [mst_row, mrow_neA (by omega)]), g2.kp ⟨em _ (by omega), em _ (by omega)⟩ (by rw [mst_row, mrow_neA (by omega)]) (don_SLish _ (by omega)) (fun i h0 h1 => don_SLish i (by omega)) g1.1.hlg.2, g3.to (em _ (by omega)) (fun q hq => by
    rw [mst_row]
    exact mrow_ne (fun y => by rw [y] at hq; rcases hq with hq | hq <;> injection hq <;> contradiction)), g4.don, ?_, ?_, ?_, ?_⟩
  · rw [em _ (by omega), don_SLish _ (by omega)]; exact g5
  · rw [em _ (by omega), don_SLish _ (by omega)]; exact g6
  · rw [em _ (by omega), don_SLish _ (by omega)]; exact g7
  · have e7 : upd r 7 (nI 1) 7 = nI 1 := by rw [q_upd, if_pos rfl]
    rw [e7, mst_row, mrow_self, q_upd, if_pos rfl, decide_eq_true (fun x => absurd x.1 (by decide))]
    rfl
/-- other keys than those of States -/
theorem STR.n0 {a : Mm} (h : STR sh ln μ j V n N w0 r Λo) {f : Nat → Int32} (e : a = mrow μ (0, 0) f) : STR sh ln a j V n N w0 r Λo := by
  subst e
  obtain ⟨g1, g2, g3, g4, g5⟩ := h
  refine ⟨g1.to g1.1 Sam.rf (fun i hi => by rw [mrow_neA (by omega)]) (fun i hi => by rw [mrow_neA (by omega)]), g2.kp (by rw [mrow_neA (by omega)]; exact ⟨rfl, rfl⟩) (by rw [mrow_neA (by omega)]) rfl (fun _ _ _ => rfl) g1.1.hlg.2, g3.to (by rw [mrow_neA (by omega)]) (fun q hq => mrow_ne (fun y => by rw [y] at hq; rcases hq with hq | hq <;> injection hq <;> contradiction)), g4, ?_⟩
  rw [mrow_neA (by omega)]
  exact g5
theorem k_undo0 (h8 : μ (0, 0) 8 = nI 0) : f_X10_undoA sh ln μ = some ((nI 0, ln, μ), 0, 0) := by
  rw [f_X10_undoA, if_neg (by rw [h8]; decide)]
  rfl
theorem k_undoA {c t t' : Nat} (hc : c < 8) (ht : t < 8) (ht' : t' = if t = 0 then 7 else t - 1) (h8 : μ (0, 0) 8 = nI (c + 1)) (h7 : μ (0, 0) 7 = nI t) (hj : NW sh μ j) (hs2 : sh 2 (2 + t') = 1) (hne : j ≠ 2 + t')
    (h : STR sh ln μ (2 + t') V n N w0 r Λo) (hB : LB ln) (hU : UL ln) :
    ∃ ln' m kc ks, f_X10_undoA sh ln μ = some ((nI 1, ln', m), kc, ks) ∧ GR j ln ln' kc ks ∧ STR sh ln' m j V n N w0 (upd r 7 (nI 1)) Λo ∧ FrS j (mrow μ (0, 0) (upd (upd (μ (0, 0)) 8 (nI c)) 7 (nI t'))) m := by
  have ht8 : t' < 8 := by rw [ht']; split <;> omega
  obtain ⟨μ1, hm⟩ : ∃ μ1, μ1 = mrow μ (0, 0) (upd (upd (μ (0, 0)) 8 (nI c)) 7 (nI t')) := ⟨_, rfl⟩
  have e8 : mst μ (0, 0) 8 (μ (0, 0) 8 - (1 : Int32)) = mrow μ (0, 0) (upd (μ (0, 0)) 8 (nI c)) := by rw [mst_row, h8, show (1 : Int32) = nI 1 from rfl, q_sub (by omega), Nat.add_sub_cancel]
  have e7 : mrow μ (0, 0) (upd (μ (0, 0)) 8 (nI c)) (0, 0) 7 = nI t := by rw [mrow_self, q_upd, if_neg (by omega)]; exact h7
  have hn : NW sh μ1 j := ⟨by rw [hm, mrow_self, q_upd, if_neg (by omega), q_upd, if_neg (by omega)]; exact hj.1, hj.2⟩
  have h7' : μ1 (0, 0) 7 = nI t' := by rw [hm, mrow_self, q_upd, if_pos rfl]
  have h1 : STR sh ln μ1 (2 + t') V n N w0 r Λo := h.n0 hm
  obtain ⟨l1, a1, c1, s1, e1, G1, S1, F1⟩ := k_becomeA h1 hB hU hj.2.1 hne
  have hsj : sh 2 j = 1 := hj.2.2
  have ecj : ∀ {X : Type} (x : Option X), ce (sh 2 j = 1) x = x := fun x => by unfold ce; rw [if_pos hsj]
  have ect : ∀ {X : Type} (x : Option X), ce (sh 2 (2 + t') = 1) x = x := fun x => by unfold ce; rw [if_pos hs2]
  have epast : f_X10_pastAt sh ln μ1 (nI t') = some (2 + t', μ1) := by
    have hs0 : ¬ sh 2 (2 + t') = 0 := by rw [hs2]; decide
    rw [f_X10_pastAt, if_neg (show ¬ nI t' < (0 : Int32) from nI_nneg (by omega)), if_pos (show nI t' < (8 : Int32) from nI_lt (b := 8) ht8 (by omega)), q_ck (by omega) ht8, q_cl (by omega), if_neg hs0, q_ck (by omega) ht8, if_neg hs0]
  have a9 : (a1 (0, 0) 9).toNatClampNeg = j := by
    have : a1 (0, 0) = μ1 (0, 0) := F1.n0 (by omega)
    rw [this]
    exact hn.c
  have n9 := hn.c
  have hfin : ((f_X10_pastAt sh ln μ1 (μ1 (0, 0) 7)).bind fun x51 => ce (sh 2 x51.1 = 1) ((f_X6_becomeA sh ln ((μ1 (0, 0) 9).toNatClampNeg) x51.1 x51.2).bind fun x54 => addc x54.2.1 x54.2.2 (ce (sh 2 ((x54.1.2.2 (0, 0) 9).toNatClampNeg) = 1) (some (((1 : Int32), x54.1.2.1, (mst x54.1.2.2 (13, (x54.1.2.2 (0, 0) 9).toNatClampNeg) 7 (1 : Int32))), 0, 0))))) = some ((nI 1, l1, mst a1 (13, j) 7 (1 : Int32)), c1, s1) := by
    rw [h7', epast, Option.bind_some]
    show ce (sh 2 (2 + t') = 1) ((f_X6_becomeA sh ln ((μ1 (0, 0) 9).toNatClampNeg) (2 + t') μ1).bind _) = _
    rw [ect, n9, e1, Option.bind_some]
    show addc c1 s1 (ce (sh 2 ((a1 (0, 0) 9).toNatClampNeg) = 1) (some (((1 : Int32), l1, (mst a1 (13, (a1 (0, 0) 9).toNatClampNeg) 7 (1 : Int32))), 0, 0))) = _
    rw [a9, ecj]
    rfl
  refine ⟨l1, mst a1 (13, j) 7 (1 : Int32), c1, s1, ?_, G1, S1.don, by rw [← hm]; exact F1.tr (fun q _ _ _ e3 => by rw [mst_row]; exact mrow_ne e3)⟩
  rw [f_X10_undoA, if_pos (show (1 : Int32) ≤ μ (0, 0) 8 by rw [h8, show (1 : Int32) = nI 1 from rfl, q_le (by omega) (by omega)]; omega), e8, e7]
  by_cases c0 : t = 0
  · have em : mst (mrow μ (0, 0) (upd (μ (0, 0)) 8 (nI c))) (0, 0) 7 (7 : Int32) = μ1 := by
      rw [hm, mst_row, mrow_mrow, mrow_self, ht', if_pos c0]; rfl
    rw [if_pos (show nI t ≤ 0 by rw [c0]; decide), em, n9, ecj]
    rw [n9] at hfin
    exact hfin
  · have em : mst (mrow μ (0, 0) (upd (μ (0, 0)) 8 (nI c))) (0, 0) 7 (nI t - (1 : Int32)) = μ1 := by
      rw [hm, mst_row, mrow_mrow, mrow_self, ht', if_neg c0, show (1 : Int32) = nI 1 from rfl, q_sub (by omega)]
    rw [if_neg (show ¬ nI t ≤ 0 by rw [show (0 : Int32) = nI 0 from rfl, q_le (by omega) (by omega)]; omega), em, Option.bind_some, n9, ecj]
    rw [n9] at hfin
    exact hfin
theorem k_back0 (h0 : sh 2 10 = 0) : f_X10_backA sh ln μ = some ((nI 0, ln, μ), 0, 0) := by
  rw [f_X10_backA, if_pos h0]
  rfl
theorem k_backA (hj : NW sh μ j) (h10 : sh 2 10 = 1) (hne : j ≠ 10) (h : STR sh ln μ 10 V n N w0 r Λo) (hB : LB ln) (hU : UL ln) :
    ∃ ln' m kc ks, f_X10_backA sh ln μ = some ((nI 1, ln', m), kc, ks) ∧ GR j ln ln' kc ks ∧ STR sh ln' m j V n N w0 r Λo ∧ ∃ a, FrS j μ a ∧ m = mrow a (0, 0) (upd (a (0, 0)) 8 (nI 0)) := by
  obtain ⟨l1, a1, c1, s1, e1, G1, S1, F1⟩ := k_becomeA h hB hU hj.2.1 hne
  have hsj : sh 2 j = 1 := hj.2.2
  have ecj : ∀ {X : Type} (x : Option X), ce (sh 2 j = 1) x = x := fun x => by unfold ce; rw [if_pos hsj]
  have h0 : ¬ sh 2 10 = 0 := by rw [h10]; decide
  have n9 := hj.c
  have ef : f_X10_forgetPast sh l1 a1 = some (mrow a1 (0, 0) (upd (a1 (0, 0)) 8 (nI 0))) := by rw [f_X10_forgetPast, mst_row]; rfl
  refine ⟨l1, mrow a1 (0, 0) (upd (a1 (0, 0)) 8 (nI 0)), c1, s1, ?_, G1, S1.n0 rfl, a1, F1, rfl⟩
  rw [f_X10_backA, if_neg h0, n9, ecj, if_neg h0, e1, Option.bind_some]
  show addc c1 s1 ((f_X10_forgetPast sh l1 a1).bind fun x21 => some (((1 : Int32), l1, x21), 0, 0)) = _
  rw [ef, Option.bind_some]
  rfl
end UNDK
