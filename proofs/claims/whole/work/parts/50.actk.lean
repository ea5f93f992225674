-- acts: the class
theorem STR.X {sh : Sh} {ln : Nat → Nat} {μ a : Mm} {j V n N w0 : Nat} {r : Nat → Int32} {Λo : Option LW} (h : STR sh ln μ j V n N w0 r Λo) (hF : FrX μ a) : STR sh ln a j V n N w0 r Λo := by
  have e13 : a (13, j) = μ (13, j) := hF _ (fun y => by injection y; contradiction) (fun y => absurd y.1 (by simp))
  have e4 : a (12, 15 + 5 * j + 4) = μ (12, 15 + 5 * j + 4) := hF _ (fun y => by injection y; contradiction) (fun y => by have h2 := y.2.2; have : 15 + 5 * j + 4 < 15 := h2; omega)
  obtain ⟨h1, h2, h3, h4, h5, h6, h7, h8⟩ := h
  refine ⟨h1.X hF, h2.kp (by rw [e13]; exact ⟨rfl, rfl⟩) e4 rfl (fun _ _ _ => rfl) h1.1.hlg.2, h3.to (by rw [e13]) (fun q hq => hF q (fun y => by rw [y] at hq; rcases hq with hq | hq <;> injection hq <;> contradiction) (fun y => by have := y.1; omega)), h4, ?_, ?_, ?_, ?_⟩
  · rw [e13]; exact h5
  · rw [e13]; exact h6
  · rw [e13]; exact h7
  · rw [e13]; exact h8
theorem FrC.Xs {P : Nat → Prop} {μ a : Mm} (h : FrC P μ a) (hP : ∀ c, P c → 1 ≤ c ∧ c < 15) : FrX μ a := h.X hP
/-- the groups, the worlds left or who sees whom are others now -/
theorem STR.ch {sh : Sh} {ln : Nat → Nat} {μ a : Mm} {j V n N w0 : Nat} {r r' : Nat → Int32} {Λo : Option LW} (h : STR sh ln μ j V n N w0 r Λo) (hC : CS ln a j V n N w0 r') (hS : SL r r') (h4 : r' 4 = r 4) (h9 : r' 9 = r 9) (hl : ∀ i, 5140 ≤ i → i < 5440 → r' i = r i)
    (hF : FrC (fun c => c ≠ 15 + 5 * j + 4) μ a) : STR sh ln a j V n N w0 r' Λo := by
  have e13 : a (13, j) = μ (13, j) := hF.st (by omega)
  have e4 : a (12, 15 + 5 * j + 4) = μ (12, 15 + 5 * j + 4) := hF.ce (fun y => y rfl)
  obtain ⟨g1, g2, g3, g4, g5, g6, g7, g8⟩ := h
  refine ⟨hC, g2.kp (by rw [e13]; exact ⟨rfl, rfl⟩) e4 h9 hl g1.1.hlg.2, g3.fr hF, g4.sl hS, ?_, ?_, ?_, ?_⟩
  · rw [e13, h4]; exact g5
  · rw [e13, hS.2.2.1]; exact g6
  · rw [e13, hS.1]; exact g7
  · rw [e13, hS.2.2.2.1, hS.2.2.2.2.1]; exact g8
/-- a row is told at the end of an act -/
def TL (V n N w0 : Nat) (k p q v : Int32) (r : Nat → Int32) : Nat → Int32 := tel k p q v (nI (suO r V n N w0 n)) r
/-- what an act leaves -/
def ACT (f : Option ((Int32 × (Nat → Nat) × Mm) × Nat × Nat)) (sh : Sh) (ln : Nat → Nat) (μ : Mm) (j V n N w0 : Nat) (r' : Nat → Int32) (Λo : Option LW) (v : Int32) : Prop :=
  ∃ ln' m kc ks, f = some ((v, ln', m), kc, ks) ∧ GR j ln ln' kc ks ∧ STR sh ln' m j V n N w0 r' Λo ∧ FrS j μ m
section ACTK
variable {sh : Sh} {ln : Nat → Nat} {μ : Mm} {j V n N w0 : Nat} {r : Nat → Int32} {Λo : Option LW}
theorem k_heard (h : STR sh ln μ j V n N w0 r Λo) (hL : LN ln) {c : Nat → Int32} (hc : ∀ w, w < N → lf r w = true → μ (12, 4) w = c w) :
    ∃ a, f_X0_heardByAll sh ln j μ = some (c w0, a) ∧ STR sh ln a j V n N w0 (drp c N w0 r) Λo ∧ FrC (fun c => c = 15 + 5 * j + 2) μ a := by
  have hC := h.1
  have hb := hC.1.b
  have hl4 : ln 4 = 512 := hL.2.2.2.2.1
  obtain ⟨R, e, hR⟩ := k_heed (sh := sh) (c := 15 + 5 * j + 2) (S := lf r) hL hC.c2 hC.c3 hb.2.2.2.2.2 hb.2.2.2.1 hC.stl (by omega) hC.stay
  have hd : drp (μ (12, 4)) N w0 r = drp c N w0 r := drp_congr hC.1 (fun w hw hl => by rw [hc w hw hl, hc w0 hb.2.2.2.2.2 hC.1.h0])
  have h1 := hC.drp (c := μ (12, 4)) hR
  rw [hd] at h1
  refine ⟨mrow μ (12, 15 + 5 * j + 2) R, ?_, h.ch h1 (SL.drp hb.2.2.2.1) (drp_ne (by omega)) (drp_ne (by omega)) (fun i _ _ => drp_ne (by omega)) (FrC.rf.mr (by omega)), FrC.rf.mr rfl⟩
  have e13 : mrow μ (12, 15 + 5 * j + 2) R (13, j) 3 = nI w0 := by rw [mrow_neA (by omega)]; exact hC.c3
  have es : f_X4_saidIn sh ln (mrow μ (12, 15 + 5 * j + 2) R) (nI w0) = some (c w0) := by
    rw [f_X4_saidIn, k_at (by omega) (by omega), mrow_neB (by omega), hc w0 hb.2.2.2.2.2 hC.1.h0]
    rfl
  rw [f_X0_heardByAll, e, Option.bind_some]
  show ((f_X4_saidIn sh ln (mrow μ (12, 15 + 5 * j + 2) R) (mrow μ (12, 15 + 5 * j + 2) R (13, j) 3)).bind fun x21 => some (x21, mrow μ (12, 15 + 5 * j + 2) R)) = _
  rw [e13, es, Option.bind_some]
theorem k_fin (h : STR sh ln μ j V n N w0 r Λo) (hB : LB ln) (hj : j < 11) {μ0 : Mm} (hF : FrS j μ0 μ) (k p q v v' : Int32) :
    ACT ((f_X4_sureBits sh ln j (15 + 5 * j + 2) μ).bind fun x => (f_X6_noteA sh ln j μ k p q v x).bind fun y => addc y.2.1 y.2.2 (some ((v', y.1.2.1, y.1.2.2), 0, 0))) sh ln μ0 j V n N w0 (TL V n N w0 k p q v r) Λo v' := by
  obtain ⟨ln', m, kc, ks, e, hG, hS, hF2⟩ := k_noteA h hB hj k p q v (nI (suO r V n N w0 n))
  refine ⟨ln', m, kc, ks, ?_, hG, hS, hF.tr hF2⟩
  rw [k_sureOnes h.1, Option.bind_some, e, Option.bind_some]
  rfl
theorem k_askOne (h : STR sh ln μ j V n N w0 r Λo) (hL : LN ln) (hB : LB ln) (hj : j < 11) {p : Nat} (hp : p < n) :
    ACT (f_X0_askOneA sh ln j μ (nI p)) sh ln μ j V n N w0 (TL V n N w0 (nI 3) (nI p) (-nI 1) (bI (suR r V n N p w0)) (drp (fun w => bI (suR r V n N p w)) N w0 r)) Λo (bI (suR r V n N p w0)) := by
  obtain ⟨R, C, e1, hC⟩ := k_saySure (sh := sh) h.1 hL hp
  have hX : FrX μ (mrow (mrow μ (12, 2) R) (12, 4) C) := ((FrC.rf (P := fun c => 1 ≤ c ∧ c < 15)).mr (by omega) |>.mr (by omega)).Xs (fun c hc => hc)
  obtain ⟨a, e2, h2, hF2⟩ := k_heard (h.X hX) hL (c := fun w => bI (suR r V n N p w)) (fun w hw _ => by rw [mrow_self]; exact hC w hw)
  have := k_fin h2 hB hj (hX.S.tr (hF2.S (j := j) (fun c hc => by omega))) (nI 3) (nI p) (-nI 1) (bI (suR r V n N p w0)) (bI (suR r V n N p w0))
  rw [f_X0_askOneA, e1, Option.bind_some, e2, Option.bind_some]
  cases hs : suR r V n N p w0
  · rw [hs] at this
    exact this
  · rw [hs] at this
    exact this
theorem k_readOut (h : STR sh ln μ j V n N w0 r Λo) (hL : LN ln) (hB : LB ln) (hj : j < 11) {p : Nat} (hp : p < n) :
    ACT (f_X0_readOutA sh ln j μ (nI p)) sh ln μ j V n N w0 (TL V n N w0 (nI 5) (nI p) (-nI 1) (nI (fig V n p w0)) (drp (fun w => nI (fig V n p w)) N w0 r)) Λo (nI (fig V n p w0)) := by
  obtain ⟨C, e1, hC⟩ := k_sayNotice (sh := sh) h.1 hL hp
  have hX : FrX μ (mrow μ (12, 4) C) := ((FrC.rf (P := fun c => 1 ≤ c ∧ c < 15)).mr (by omega)).Xs (fun c hc => hc)
  obtain ⟨a, e2, h2, hF2⟩ := k_heard (h.X hX) hL (c := fun w => nI (fig V n p w)) (fun w hw _ => by rw [mrow_self]; exact hC w hw)
  rw [f_X0_readOutA, e1, Option.bind_some, e2, Option.bind_some]
  exact k_fin h2 hB hj (hX.S.tr (hF2.S (j := j) (fun c hc => by omega))) (nI 5) (nI p) (-nI 1) (nI (fig V n p w0)) (nI (fig V n p w0))
theorem k_queryOne (h : STR sh ln μ j V n N w0 r Λo) (hL : LN ln) (hB : LB ln) (hj : j < 11) {p q v : Nat} (hp : p < n) (hq : q < n) (hv : v < V) :
    ACT (f_X0_queryOneA sh ln j μ (nI p) (nI q) (nI v)) sh ln μ j V n N w0 (TL V n N w0 (nI 7) (nI p) (nI q) (nI (ans (poss (lf r) (lab r p) (fig V n q) N (lab r p w0)) v)) (drp (fun w => nI (ans (poss (lf r) (lab r p) (fig V n q) N (lab r p w)) v)) N w0 r)) Λo (nI (ans (poss (lf r) (lab r p) (fig V n q) N (lab r p w0)) v)) := by
  obtain ⟨R, C, e1, hC⟩ := k_sayAnswer (sh := sh) h.1 hL h.1.stl (by omega) h.1.stay hp hq hv
  have hX : FrX μ (mrow (mrow μ (12, 2) R) (12, 4) C) := ((FrC.rf (P := fun c => 1 ≤ c ∧ c < 15)).mr (by omega) |>.mr (by omega)).Xs (fun c hc => hc)
  obtain ⟨a, e2, h2, hF2⟩ := k_heard (h.X hX) hL (c := fun w => nI (ans (poss (lf r) (lab r p) (fig V n q) N (lab r p w)) v)) (fun w hw _ => by rw [mrow_self]; exact hC w hw)
  rw [f_X0_queryOneA, e1, Option.bind_some, e2, Option.bind_some]
  exact k_fin h2 hB hj (hX.S.tr (hF2.S (j := j) (fun c hc => by omega))) (nI 7) (nI p) (nI q) (nI (ans (poss (lf r) (lab r p) (fig V n q) N (lab r p w0)) v)) (nI (ans (poss (lf r) (lab r p) (fig V n q) N (lab r p w0)) v))
theorem k_claimMany (h : STR sh ln μ j V n N w0 r Λo) (hL : LN ln) (hB : LB ln) (hj : j < 11) {m v : Nat} (hm : m < 10) (hv2 : v < V) :
    ACT (f_X0_claimManyA sh ln j μ (nI m) (nI v)) sh ln μ j V n N w0 (TL V n N w0 (nI 6) (nI v) (-nI 1) (nI m) (drp (fun w => bI (decide (m ≤ hv V n v w n))) N w0 r)) Λo (nI (hv V n v w0 n)) := by
  have hb := h.1.1.b
  obtain ⟨C, e1, hC⟩ := k_sayMany (sh := sh) h.1 hL (m := m) (v := v) (by omega) (by omega) true
  have hX : FrX μ (mrow μ (12, 4) C) := ((FrC.rf (P := fun c => 1 ≤ c ∧ c < 15)).mr (by omega)).Xs (fun c hc => hc)
  obtain ⟨a, e2, h2, hF2⟩ := k_heard (h.X hX) hL (c := fun w => bI (decide (m ≤ hv V n v w n))) (fun w hw _ => by rw [mrow_self]; exact hC w hw)
  obtain ⟨ln', m', kc, ks, e3, hG, hS, hF3⟩ := k_noteA h2 hB hj (nI 6) (nI v) (-nI 1) (nI m) (nI (suO (drp (fun w => bI (decide (m ≤ hv V n v w n))) N w0 r) V n N w0 n))
  have e1' : f_X4_sayWhetherMany sh ln j μ (nI m) (nI v) (1 : Int32) = some (mrow μ (12, 4) C) := e1
  have e4 := k_sureOnes (sh := sh) h2.1
  have e5 := k_many (sh := sh) hS.1 (w := w0) (v := v) hb.2.2.2.2.2 (by omega)
  refine ⟨ln', m', kc, ks, ?_, hG, hS, (hX.S.tr (hF2.S (j := j) (fun c hc => by omega))).tr hF3⟩
  rw [f_X0_claimManyA, e1', Option.bind_some, e2, Option.bind_some, e4, Option.bind_some]
  show ((f_X6_noteA sh ln j a (nI 6) (nI v) (-nI 1) (nI m) _).bind fun x35 => addc x35.2.1 x35.2.2 ((f_X6_many sh x35.1.2.1 j x35.1.2.2 (x35.1.2.2 (13, j) 3) (nI v)).bind fun x44 => some ((x44, x35.1.2.1, x35.1.2.2), 0, 0))) = _
  rw [e3, Option.bind_some]
  show addc kc ks ((f_X6_many sh ln' j m' (m' (13, j) 3) (nI v)).bind fun x44 => some ((x44, ln', m'), 0, 0)) = _
  rw [hS.1.c3, e5, Option.bind_some]
  rfl
theorem STR.day (h : STR sh ln μ j V n N w0 r Λo) : STR sh ln (mst μ (13, j) 4 (μ (13, j) 4 + (1 : Int32))) j V n N w0 (upd r 4 (r 4 + nI 1)) Λo := by
  obtain ⟨g1, g2, g3, g4, g5, g6, g7, g8⟩ := h
  have eu : ∀ i, i ≠ 4 → upd r 4 (r 4 + nI 1) i = r i := fun i hi => by rw [q_upd, if_neg hi]
  have em : ∀ i, i ≠ 4 → mst μ (13, j) 4 (μ (13, j) 4 + (1 : Int32)) (13, j) i = μ (13, j) i := fun i hi => by rw [mst_row, mrow_self, q_upd, if_neg hi]
  have hlg := g1.1.hlg
  have hSam : Sam r (upd r 4 (r 4 + nI 1)) := fun i h0 h1 => eu i (by omega)
  have hW : WF V n N w0 (upd r 4 (r 4 + nI 1)) := g1.1.chg hSam (eu _ (by omega)) (eu _ (by omega)) (eu _ (by omega)) ⟨lgd r, hlg.2, by rw [eu _ (by omega)]; exact hlg.1⟩ (by rw [eu _ (by omega)]; exact g1.1.2.2.2.2.2.2.2.1) (by rw [eu _ (by omega)]; exact g1.1.2.2.2.2.2.2.2.2.1) (by rw [eu _ (by omega)]; exact g1.1.2.2.2.2.2.2.2.2.2)
  refine ⟨g1.to hW hSam (fun i hi => em i (by omega)) (fun i hi => by rw [mst_row, mrow_neA (by omega)]), g2.kp ⟨em _ (by omega), em _ (by omega)⟩ (by rw [mst_row, mrow_neA (by omega)]) (eu _ (by omega)) (fun i h0 h1 => eu i (by omega)) hlg.2, g3.to (em _ (by omega)) (fun q hq => by
    rw [mst_row]
    exact mrow_ne (fun y => by rw [y] at hq; rcases hq with hq | hq <;> injection hq <;> contradiction)), g4.sl ⟨eu _ (by omega), eu _ (by omega), eu _ (by omega), eu _ (by omega), eu _ (by omega), fun i hi => eu i (by omega)⟩, ?_, ?_, ?_, ?_⟩
  · rw [mst_row, mrow_self, q_upd, if_pos rfl, q_upd, if_pos rfl, g5]; rfl
  · rw [em _ (by omega), eu _ (by omega)]; exact g6
  · rw [em _ (by omega), eu _ (by omega)]; exact g7
  · rw [em _ (by omega), eu _ (by omega), eu _ (by omega)]; exact g8
/-- the row behind a day -/
def dayR (V n N w0 : Nat) (r : Nat → Int32) : Nat → Int32 := upd (drp (fun w => nI (suO r V n N w n)) N w0 r) 4 (r 4 + nI 1)
theorem k_askAll (h : STR sh ln μ j V n N w0 r Λo) (hL : LN ln) (hB : LB ln) (hj : j < 11) :
    ACT (f_X0_askAllA sh ln j μ) sh ln μ j V n N w0 (TL V n N w0 (nI 4) (-nI 1) (-nI 1) (nI (suO r V n N w0 n)) (dayR V n N w0 r)) Λo (nI (suO r V n N w0 n)) := by
  obtain ⟨R, C, e1, hC⟩ := k_sayWho (sh := sh) h.1 hL h.1.stl (by omega) h.1.stay
  have hX : FrX μ (mrow (mrow μ (12, 2) R) (12, 4) C) := ((FrC.rf (P := fun c => 1 ≤ c ∧ c < 15)).mr (by omega) |>.mr (by omega)).Xs (fun c hc => hc)
  obtain ⟨a, e2, h2, hF2⟩ := k_heard (h.X hX) hL (c := fun w => nI (suO r V n N w n)) (fun w hw _ => by rw [mrow_self]; exact hC w hw)
  have h3 := h2.day
  have e4 : drp (fun w => nI (suO r V n N w n)) N w0 r 4 = r 4 := drp_ne (by omega)
  have ed : upd (drp (fun w => nI (suO r V n N w n)) N w0 r) 4 (drp (fun w => nI (suO r V n N w n)) N w0 r 4 + nI 1) = dayR V n N w0 r := by rw [e4]; rfl
  rw [ed] at h3
  have hF3 : FrS j a (mst a (13, j) 4 (a (13, j) 4 + (1 : Int32))) := fun q _ _ _ e3 => by rw [mst_row]; exact mrow_ne e3
  rw [f_X0_askAllA, e1, Option.bind_some, e2, Option.bind_some]
  exact k_fin h3 hB hj ((hX.S.tr (hF2.S (j := j) (fun c hc => by omega))).tr hF3) (nI 4) (-nI 1) (-nI 1) (nI (suO r V n N w0 n)) (nI (suO r V n N w0 n))
end ACTK
