-- a text of the village
section C6
variable {sh : Sh} {ln : Nat → Nat} {μ : Mm} {j V n N w0 : Nat} {r r' : Nat → Int32} {Λo : Option LW}
theorem WF.c6 (h : WF V n N w0 r) (e : ∀ i, i < 6277 → r' i = r i) : WF V n N w0 r' := by
  have hlg := h.hlg
  exact h.chg (fun i _ h1 => e i (by omega)) (e _ (by omega)) (e _ (by omega)) (e _ (by omega)) ⟨lgd r, hlg.2, by rw [e _ (by omega)]; exact hlg.1⟩ (by rw [e _ (by omega)]; exact h.2.2.2.2.2.2.2.1) (by rw [e _ (by omega)]; exact h.2.2.2.2.2.2.2.2.1) (by rw [e _ (by omega)]; exact h.2.2.2.2.2.2.2.2.2)
theorem LRw.c6 (h : LRw r Λo) (e : ∀ i, i < 6277 → r' i = r i) : LRw r' Λo := by
  cases Λo with
  | none => show r' 3 = nI 0; rw [e 3 (by omega)]; exact h
  | some Λ =>
    obtain ⟨h1, h2, h3⟩ := h
    have hk := h3.1
    have hi := h3.2.2.1
    refine ⟨by rw [e _ (by omega)]; exact h1, ⟨by rw [e _ (by omega)]; exact h2.1, fun k hk => ?_, fun i hi => ?_⟩, h3⟩
    · rw [e _ (by omega), e _ (by omega), e _ (by omega)]; exact h2.2.1 k hk
    · rw [e _ (by omega), e _ (by omega)]; exact h2.2.2 i hi
theorem STR.c6 (h : STR sh ln μ j V n N w0 r Λo) (e : ∀ i, i < 6277 → r' i = r i) : STR sh ln μ j V n N w0 r' Λo := by
  obtain ⟨g1, g2, g3, g4, g5, g6, g7, g8⟩ := h
  refine ⟨g1.to (g1.1.c6 e) (fun i _ h1 => e i (by omega)) (fun _ _ => rfl) (fun _ _ => rfl), g2.kp ⟨rfl, rfl⟩ rfl (e _ (by omega)) (fun i _ h1 => e i (by omega)) g1.1.hlg.2, g3, g4.c6 e, ?_, ?_, ?_, ?_⟩
  · rw [e _ (by omega)]; exact g5
  · rw [e _ (by omega)]; exact g6
  · rw [e _ (by omega)]; exact g7
  · rw [e _ (by omega), e _ (by omega)]; exact g8
theorem EX.c6 {x2 : Int32} (h : EX x2 r) (e : ∀ i, i < 6277 → r' i = r i) : EX x2 r' := by
  refine ⟨fun c => ?_, by rw [e _ (by omega)]; exact h.2⟩
  rw [e _ (by omega), e _ (by omega)] at c
  have := h.1 c
  exact ⟨fun i h0 h1 => by rw [e _ (by omega)]; exact this.1 i h0 h1, fun i h0 h1 => by rw [e _ (by omega)]; exact this.2 i h0 h1⟩
theorem u2 (i : Nat) (hi : i ≠ 2) {x : Int32} : upd r 2 x i = r i := by rw [q_upd, if_neg hi]
/-- one text more -/
theorem STR.t2 (h : STR sh ln μ j V n N w0 r Λo) (x : Int32) : STR sh ln (mst μ (13, j) 6 x) j V n N w0 (upd r 2 x) Λo := by
  obtain ⟨g1, g2, g3, g4, g5, g6, g7, g8⟩ := h
  have em : ∀ i, i ≠ 6 → mst μ (13, j) 6 x (13, j) i = μ (13, j) i := fun i hi => by rw [mst_row, mrow_self, q_upd, if_neg hi]
  have hlg := g1.1.hlg
  have hW : WF V n N w0 (upd r 2 x) := g1.1.chg (fun i h0 _ => u2 i (by omega)) (u2 _ (by omega)) (u2 _ (by omega)) (u2 _ (by omega)) ⟨lgd r, hlg.2, by rw [u2 _ (by omega)]; exact hlg.1⟩ (by rw [u2 _ (by omega)]; exact g1.1.2.2.2.2.2.2.2.1) (by rw [u2 _ (by omega)]; exact g1.1.2.2.2.2.2.2.2.2.1) (by rw [u2 _ (by omega)]; exact g1.1.2.2.2.2.2.2.2.2.2)
  refine ⟨g1.to hW (fun i h0 h1 => u2 i (by omega)) (fun i hi => em i (by omega)) (fun i hi => by rw [mst_row, mrow_neA (by omega)]), g2.kp ⟨em _ (by omega), em _ (by omega)⟩ (by rw [mst_row, mrow_neA (by omega)]) (u2 _ (by omega)) (fun i h0 h1 => u2 i (by omega)) hlg.2, g3.to (em _ (by omega)) (fun q hq => by
    rw [mst_row]
    exact mrow_ne (fun y => by rw [y] at hq; rcases hq with hq | hq <;> injection hq <;> contradiction)), ?_, ?_, ?_, ?_, ?_⟩
  · cases Λo with
    | none => show upd r 2 x 3 = nI 0; rw [u2 3 (by omega)]; exact g4
    | some Λ =>
      obtain ⟨h1, h2, h3⟩ := g4
      refine ⟨by rw [u2 _ (by omega)]; exact h1, ⟨by rw [u2 _ (by omega)]; exact h2.1, fun k hk => ?_, fun i hi => ?_⟩, h3⟩
      · rw [u2 _ (by omega), u2 _ (by omega), u2 _ (by omega)]; exact h2.2.1 k hk
      · rw [u2 _ (by omega), u2 _ (by omega)]; exact h2.2.2 i hi
  · rw [em _ (by omega), u2 _ (by omega)]; exact g5
  · rw [em _ (by omega), u2 _ (by omega)]; exact g6
  · rw [mst_row, mrow_self, q_upd, if_pos rfl, q_upd, if_pos rfl]
  · rw [em _ (by omega), u2 _ (by omega), u2 _ (by omega)]; exact g8
theorem STR.n0' {a : Mm} (h : STR sh ln μ j V n N w0 r Λo) (e : ∀ q : Ky, q ≠ (0, 0) → a q = μ q) : STR sh ln a j V n N w0 r Λo := h.al (e _ (by simp)) (fun i _ => e _ (by simp)) (fun q hq => e q (fun y => by rw [y] at hq; rcases hq with hq | hq <;> injection hq <;> contradiction))
end C6
section VILQ
variable {μ : Mm} {V n N w0 : Nat} {r : Nat → Int32}
/-- what was kept ahead of a text comes back -/
theorem q_restore (h3 : ∀ k, k < 6277 → μ (3, 0) k = r k) : f_X11_village_J90 μ = some (nI 0, mrow μ (1, 0) (fun i => if i < 6277 then r i else μ (1, 0) i)) := by
  unfold f_X11_village_J90
  refine Wh_it 6277 (fun k => (mrow μ (1, 0) (fun i => if i < k then r i else μ (1, 0) i), nI k)) (by rw [cpy_0, mrow_id]; rfl) (fun k hk => ?_) ?_
  · show f_X11_village_L92 (mrow μ (1, 0) (fun i => if i < k then r i else μ (1, 0) i)) (nI k) = some (.inl (mrow μ (1, 0) (fun i => if i < k + 1 then r i else μ (1, 0) i), nI (k + 1)))
    rw [f_X11_village_L92, if_neg (by rw [show (6277 : Int32) = nI 6277 from rfl, q_le (by omega) (by omega)]; omega), q_ck (by omega) (by omega), q_ck (by omega) (by omega), q_cl (by omega), mrow_neA (by omega), h3 k hk, mst_row, mrow_mrow, mrow_self, cpy_s, show (1 : Int32) = nI 1 from rfl, nI_add]
  · show f_X11_village_L92 (mrow μ (1, 0) (fun i => if i < 6277 then r i else μ (1, 0) i)) (nI 6277) = _
    rw [f_X11_village_L92, if_pos (show (6277 : Int32) ≤ nI 6277 from Int32.le_refl _)]
    rfl
theorem q_villageS (h1 : μ (1, 0) = r) {R : Int32 × Mm} (hR : ((f_X11_readAll (mrow μ (3, 0) (fun i => if i < 6277 then r i else μ (3, 0) i)) (1 : Int32)).bind fun x29 => if 0 ≤ x29.1 then if 0 ≤ x29.1 then f_X11_village_J59 (mst x29.2 (0, 0) 17 (-1 : Int32)) (0 : Int32) else (f_X11_village_J59 (mst x29.2 (0, 0) 17 (-1 : Int32)) (1 : Int32)) else (if 0 ≤ x29.1 then f_X11_village_J59 (mst x29.2 (0, 0) 17 (x29.2 (0, 0) 15)) (0 : Int32) else (f_X11_village_J59 (mst x29.2 (0, 0) 17 (x29.2 (0, 0) 15)) (1 : Int32)))) = some R) : f_X11_village μ = some R := by
  unfold f_X11_village
  refine Wh_it 6277 (fun k => (mrow μ (3, 0) (fun i => if i < k then r i else μ (3, 0) i), nI k)) (by rw [cpy_0, mrow_id]; rfl) (fun k hk => ?_) ?_
  · show f_X11_village_L2 (mrow μ (3, 0) (fun i => if i < k then r i else μ (3, 0) i)) (nI k) = some (.inl (mrow μ (3, 0) (fun i => if i < k + 1 then r i else μ (3, 0) i), nI (k + 1)))
    rw [f_X11_village_L2, if_neg (by rw [show (6277 : Int32) = nI 6277 from rfl, q_le (by omega) (by omega)]; omega), q_ck (by omega) (by omega), q_ck (by omega) (by omega), q_cl (by omega), mrow_neA (by omega), h1, mst_row, mrow_mrow, mrow_self, cpy_s, show (1 : Int32) = nI 1 from rfl, nI_add]
  · show f_X11_village_L2 (mrow μ (3, 0) (fun i => if i < 6277 then r i else μ (3, 0) i)) (nI 6277) = _
    rw [f_X11_village_L2, if_pos (show (6277 : Int32) ≤ nI 6277 from Int32.le_refl _), hR]
    rfl
end VILQ
/-- what a text of the village leaves of the class's memory -/
def FrT (d : Nat) (μ a : Mm) : Prop := ∀ q : Ky, q ≠ (0, 0) → q ≠ (2, 0) → q ≠ (5, 0) → ¬ (6 ≤ q.1 ∧ q.1 < 11) → ¬ (q.1 = 12 ∧ 1 ≤ q.2 ∧ q.2 < 15) → ¬ (q.1 = 12 ∧ 15 + 5 * d ≤ q.2 ∧ q.2 < 20 + 5 * d) → q ≠ (13, d) → a q = μ q
/-- .. and of the reference's -/
def QT (μ a : Mm) : Prop := (∀ k, k ∉ [0, 1, 3, 8, 9, 10] → a (k, 0) = μ (k, 0)) ∧ ∀ i, i ≠ 0 → i ≠ 7 → i ≠ 12 → i ≠ 13 → i ≠ 14 → i ≠ 15 → i ≠ 17 → i ≠ 19 → i ≠ 20 → i ≠ 21 → a (0, 0) i = μ (0, 0) i
theorem STR.oT {sh : Sh} {ln : Nat → Nat} {μ a : Mm} {i d V n N w0 : Nat} {r : Nat → Int32} {Λo : Option LW} (h : STR sh ln μ i V n N w0 r Λo) (hF : FrT d μ a) (hne : i ≠ d) : STR sh ln a i V n N w0 r Λo := by
  refine h.al (hF _ (by simp) (by simp) (by simp) (fun y => by have := y.2; simp at this) (fun y => by have := y.1; simp at this) (fun y => by have := y.1; simp at this) (fun y => hne (congrArg Prod.snd y))) (fun k hk => hF _ (by simp) (by simp) (by simp) (fun y => by have := y.2; simp at this) (fun y => ?_) (fun y => ?_) (by simp)) (fun q hq => hF q (fun y => ?_) (fun y => ?_) (fun y => ?_) (fun y => by omega) (fun y => by have := y.1; omega) (fun y => by have := y.1; omega) (fun y => ?_))
  · have h2 : 15 + 5 * i + k < 15 := y.2.2
    omega
  · have h1 : 15 + 5 * d ≤ 15 + 5 * i + k := y.2.1
    have h2 : 15 + 5 * i + k < 20 + 5 * d := y.2.2
    omega
  · rw [y] at hq; simp at hq
  · rw [y] at hq; simp at hq
  · rw [y] at hq; simp at hq
  · rw [y] at hq; simp at hq
section VIL
variable {sh : Sh} {ln : Nat → Nat} {μq μk : Mm} {T : Nat → Nat} {z j d V n N w0 t : Nat} {r : Nat → Int32} {Λo : Option LW}
theorem x_village (hR : RS μq V n N w0 r) (hS : STR sh ln μk j V n N w0 r Λo) (hD : ND sh μk j d) (hL : LN ln) (hB : LB ln) (hU : UL ln) (hT : TP μq μk T z) (hE : EX (nI t) r) (ht : t ≤ 12) :
    (∃ aq ak ln' kc ks V' n' N' w' r', f_X11_village μq = some (nI (t + 1), aq) ∧ g_X10_village sh ln μk = some ((.inl (nI (t + 1)), ln', ak), kc, ks) ∧ GR d ln ln' kc ks ∧ t < 12 ∧ RS aq V' n' N' w' r' ∧ STR sh ln' ak d V' n' N' w' r' Λo ∧ EX (nI (t + 1)) r' ∧ QT μq aq ∧ FrT d μk ak ∧ aq (0, 0) 0 = nI 0 ∧ aq (0, 0) 7 = nI 0 ∧ aq (0, 0) 12 = nI 0 ∧ aq (0, 0) 17 = -nI 1 ∧
      ak (0, 0) 8 = nI 0 ∧ ak (0, 0) 9 = nI d ∧ ak (0, 0) 10 = nI j ∧ ak (0, 0) 12 = -nI 1 ∧ (∀ i, i ≠ 8 → i ≠ 9 → i ≠ 10 → i ≠ 12 → ak (0, 0) i = μk (0, 0) i) ∧ ak (2, 0) = upd (μk (2, 0)) 1 (nI 0)) ∨
    (∃ c x aq ak ln' kc ks r', f_X11_village μq = some (nI 0, aq) ∧ g_X10_village sh ln μk = some ((.inr c, ln', ak), kc, ks) ∧ GR d ln ln' kc ks ∧ (c = 3 ∨ c = 5) ∧ aq (0, 0) 0 = nI (mdAU c) ∧ aq (0, 0) 7 = μq (0, 0) 7 ∧ RS aq V n N w0 r' ∧ (∀ i, i < 6277 → r' i = r i) ∧ QT μq aq ∧ FrT d μk ak ∧ aq (0, 0) 12 = nI 0 ∧ aq (0, 0) 17 = x ∧ ak (0, 0) 12 = x ∧ (∀ i, i ≠ 12 → ak (0, 0) i = μk (0, 0) i) ∧ ak (2, 0) = upd (μk (2, 0)) 1 (nI 0)) := by
  obtain ⟨hz, h256, t2, t12, tk12, tq11⟩ := hT
  have hb := hR.2.b
  have hj11 := hD.2.2.1
  have hd11 := hD.2.2.2.1
  have hne := hD.2.2.2.2.1
  have hsd := hD.2.2.2.2.2.2
  have hsj := hD.2.2.2.2.2.1
  have ced : ∀ {X : Type} (x : Option X), ce (sh 2 d = 1) x = x := fun x => by unfold ce; rw [if_pos hsd]
  have cej : ∀ {X : Type} (x : Option X), ce (sh 2 j = 1) x = x := fun x => by unfold ce; rw [if_pos hsj]
  -- the class, up to the lines
  obtain ⟨m0, hm0⟩ : ∃ m0, m0 = mst μk (2, 0) 1 (0 : Int32) := ⟨_, rfl⟩
  have hm0r : m0 = mrow μk (2, 0) (upd (μk (2, 0)) 1 (nI 0)) := by rw [hm0, mst_row]; rfl
  have D0 : ND sh m0 j d := by unfold ND at *; rw [hm0r, mrow_neA (by omega)]; exact hD
  have S0 : STR sh ln m0 j V n N w0 r Λo := hS.al (by rw [hm0r, mrow_neA (by omega)]) (fun i _ => by rw [hm0r, mrow_neA (by omega)]) (fun q hq => by rw [hm0r]; exact mrow_ne (fun y => by rw [y] at hq; simp at hq))
  obtain ⟨l1, m1, c1, s1, e1, G1, S1, F1⟩ := k_becomeA S0 hB hU hd11 hne
  have D1 := D0.S F1
  obtain ⟨m2, e2, k2, p2, w2, K2⟩ := k_open0 (sh := sh) (ln := l1) (μ := m1) (T := T) (z := z) (fun i hi => by rw [F1 (12, 0) (by simp) (by simp) (by simp) (by simp), hm0r, mrow_neA (by omega)]; exact tk12 i hi) h256 hz (hL.gr G1).1
  obtain ⟨m3, hm3⟩ : ∃ m3, m3 = mst m2 (6, 0) 12 (nI (d + 1)) := ⟨_, rfl⟩
  have hm3r : m3 = mrow m2 (6, 0) (upd (m2 (6, 0)) 12 (nI (d + 1))) := by rw [hm3, mst_row]
  have K3 : KC 0 l1 m3 T z (nb T z 0) := by rw [hm3r]; exact K2.to (fun q hq _ => mrow_ne hq) (fun i _ _ _ h12 => by rw [mrow_self, q_upd, if_neg (by omega)])
  have k3 : ∀ q : Ky, ¬ (6 ≤ q.1 ∧ q.1 < 10) → m3 q = m1 q := fun q hq => by
    rw [hm3r, mrow_ne (fun y => by rw [y] at hq; simp at hq)]
    exact k2 q (fun y => by rw [y] at hq; simp at hq) (fun y => by rw [y] at hq; simp at hq) (fun y => by rw [y] at hq; simp at hq) (fun y => by rw [y] at hq; simp at hq)
  have w3 : m3 (6, 0) 7 = -nI 1 := by rw [hm3r, mrow_self, q_upd, if_neg (by omega)]; exact w2
  have S3 : STR sh l1 m3 d V n N w0 r Λo := S1.al (k3 _ (by simp)) (fun i _ => k3 _ (by simp)) (fun q hq => k3 q (by omega))
  have X3 : VX sh l1 m3 d := ⟨by rw [hm3r, mrow_self, q_upd, if_pos rfl], hd11, hsd, hL.gr G1, hB.gr G1, hU.gr G1⟩
  have D2 : ND sh m2 j d := by
    unfold ND at *
    rw [k2 (0, 0) (by simp) (by simp) (by simp) (by simp)]
    exact D1
  have eaim : f_X9_aimAt sh l1 d m2 = some m3 := by
    rw [f_X9_aimAt, hm3]
    unfold ce
    rw [if_pos hd11]
  -- the reference, up to the lines
  obtain ⟨μc, hμc⟩ : ∃ μc, μc = mrow μq (3, 0) (fun i => if i < 6277 then r i else μq (3, 0) i) := ⟨_, rfl⟩
  have Rc : RS μc V n N w0 r := by rw [hμc]; exact hR.row _ (by omega)
  obtain ⟨μ1, o1, ⟨o2, o3, o4⟩, hLO⟩ := v_all (x2 := nI t) Rc (z := z) (T := T) (by rw [hμc, mrow_neA (by omega)]; exact t12) hz h256 (fun i hi => by rw [hμc, mrow_neA (by omega)]; exact tq11 i hi) K3 S3 hE X3
  have c3 : ∀ k, k < 6277 → μ1 (3, 0) k = r k := fun k hk => by rw [o1 _ (by simp), hμc, mrow_self, if_pos hk]
  have qc : ∀ k, k ≠ 0 → k ≠ 3 → μ1 (k, 0) = μq (k, 0) := fun k hk hk3 => by rw [o1 _ (by simp; exact hk), hμc, mrow_neA (fun e => hk3 e.symm)]
  have p1 : ∀ i, i ≠ 0 → i ≠ 12 → i ≠ 13 → i ≠ 14 → i ≠ 15 → i ≠ 21 → μ1 (0, 0) i = μq (0, 0) i := fun i g0 g1 g2 g3 g4 g5 => by rw [o4 i g0 g1 g2 g3 g4 g5, hμc, mrow_neA (by omega)]
  have hclass : g_X10_village sh ln μk = addc c1 s1 ((f_X8_readLines_0A sh l1 m3 (14 : Int32)).bind fun x48 => addc x48.2.1 x48.2.2 ((f_X8_wrong_0 sh x48.1.2.1 x48.1.2.2).bind fun x57 => if x48.1.1 = (-1 : Int32) then some ((.inr 3, x48.1.2.1, (mst x48.1.2.2 (0, 0) 12 x57)), 0, 0) else (ce (sh 2 (((mst x48.1.2.2 (0, 0) 12 x57) (0, 0) 9).toNatClampNeg) = 1) (if ((mst x48.1.2.2 (0, 0) 12 x57) (13, ((mst x48.1.2.2 (0, 0) 12 x57) (0, 0) 9).toNatClampNeg) 6) < (12 : Int32) then ce (sh 2 (((mst x48.1.2.2 (0, 0) 12 x57) (0, 0) 10).toNatClampNeg) = 1) ((some (mst (mst x48.1.2.2 (0, 0) 12 x57) (13, ((mst x48.1.2.2 (0, 0) 12 x57) (0, 0) 10).toNatClampNeg) 6 (((mst x48.1.2.2 (0, 0) 12 x57) (13, ((mst x48.1.2.2 (0, 0) 12 x57) (0, 0) 10).toNatClampNeg) 6) + (1 : Int32)))).bind fun μ10 => ce (sh 2 ((μ10 (0, 0) 9).toNatClampNeg) = 1) (ce (sh 2 ((μ10 (0, 0) 10).toNatClampNeg) = 1) (ce ((μ10 (0, 0) 10).toNatClampNeg < 11) (ce ((μ10 (0, 0) 9).toNatClampNeg < 11) ((some (mst (mst μ10 (0, 0) 9 (nI ((μ10 (0, 0) 10).toNatClampNeg))) (0, 0) 10 (nI ((μ10 (0, 0) 9).toNatClampNeg)))).bind fun μ15 => (f_X10_forgetPast sh x48.1.2.1 μ15).bind fun x132 => ce (sh 2 ((x132 (0, 0) 9).toNatClampNeg) = 1) (some ((.inl (x132 (13, (x132 (0, 0) 9).toNatClampNeg) 6), x48.1.2.1, x132), 0, 0))))))) else (some ((.inr 5, x48.1.2.1, (mst x48.1.2.2 (0, 0) 12 x57)), 0, 0))))) ) := by
    rw [g_X10_village, f_X7_use, Option.bind_some, t2]
    show ce (sh 2 (((mst μk (2, 0) 1 (0 : Int32)) (0, 0) 10).toNatClampNeg) = 1) (ce (sh 2 (((mst μk (2, 0) 1 (0 : Int32)) (0, 0) 9).toNatClampNeg) = 1) ((f_X6_becomeA sh ln (((mst μk (2, 0) 1 (0 : Int32)) (0, 0) 10).toNatClampNeg) (((mst μk (2, 0) 1 (0 : Int32)) (0, 0) 9).toNatClampNeg) (mst μk (2, 0) 1 (0 : Int32))).bind _)) = _
    rw [← hm0, D0.c10, D0.c9, ced, cej, e1, Option.bind_some]
    show addc c1 s1 ((f_X8_open_0 sh l1 m1 (nI z)).bind _) = _
    rw [e2, Option.bind_some, D2.c10, ced, eaim, Option.bind_some]
  have fT : ∀ a, FrW d m3 a → FrT d μk a := fun a hF q g0 g2 g5 g6 g12 gd g13 => by
    rw [hF.1 q (fun y => by rw [y] at g6; simp at g6) g5 g12 gd g13, k3 q (by omega), F1 q g5 g12 gd g13, hm0r, mrow_ne g2]
  have f0 : ∀ a, FrW d m3 a → a (0, 0) = μk (0, 0) := fun a hF => by
    rw [hF.1 _ (by simp) (by simp) (by simp) (by simp) (by simp), k3 _ (by simp), F1 _ (by simp) (by simp) (by simp) (by simp), hm0r, mrow_neA (by omega)]
  have f2 : ∀ a, FrW d m3 a → a (2, 0) = upd (μk (2, 0)) 1 (nI 0) := fun a hF => by
    rw [hF.1 _ (by simp) (by simp) (by simp) (by simp) (by simp), k3 _ (by simp), F1 _ (by simp) (by simp) (by simp) (by simp), hm0r, mrow_self]
  have f13 : ∀ a, FrW d m3 a → a (13, j) = μk (13, j) := fun a hF => by
    rw [hF.1 _ (by simp) (by simp) (by simp) (by simp) (fun y => hne (congrArg Prod.snd y).symm), k3 _ (by simp), F1 _ (by simp) (by simp) (by simp) (fun y => hne (congrArg Prod.snd y).symm), hm0r, mrow_neA (by omega)]
  have fVW : ∀ a, FrV d m3 a → FrW d m3 a := fun a hF => ⟨hF.1, fun i hi => hF.2 i (by omega)⟩
  have hQT : ∀ aq, QR μ1 aq → (∀ k, k ∉ [0, 1, 3, 8, 9, 10] → aq (k, 0) = μq (k, 0)) := fun aq hq k hk => by
    simp at hk
    rw [hq.1 k (by simp; omega), qc k hk.1 hk.2.2.1]
  rcases hLO with ⟨m, aq, ak, ln', kc, ks, V', n', N', w', r', hm, f1, f2', G2, ⟨R4, S4, E4⟩, qr, fv⟩ | ⟨aq, ak, ln', kc, ks, x, f1, f2', G2, f15, f7, qr, fv⟩
  · have fw := fVW ak fv
    have a0 := f0 ak fw
    have a9 : (ak (0, 0) 9) = nI j := by rw [a0]; exact hD.1
    have a10 : (ak (0, 0) 10) = nI d := by rw [a0]; exact hD.2.1
    have aw : ak (6, 0) 7 = -nI 1 := by rw [fv.2 7 (by omega)]; exact w3
    have aj6 : ak (13, j) 6 = nI t := by rw [f13 ak fw]; exact hS.2.2.2.2.2.2.1.trans hE.2
    obtain ⟨b0, hb0⟩ : ∃ b0, b0 = mst ak (0, 0) 12 (-nI 1) := ⟨_, rfl⟩
    have b0r : b0 = mrow ak (0, 0) (upd (ak (0, 0)) 12 (-nI 1)) := by rw [hb0, mst_row]
    have b09 : (b0 (0, 0) 9).toNatClampNeg = j := by rw [b0r, mrow_self, q_upd, if_neg (by omega), a9, q_cl (by omega)]
    have b010 : (b0 (0, 0) 10).toNatClampNeg = d := by rw [b0r, mrow_self, q_upd, if_neg (by omega), a10, q_cl (by omega)]
    have b0j6 : b0 (13, j) 6 = nI t := by rw [b0r, mrow_neA (by omega)]; exact aj6
    have hm1 : ¬ nI m = (-1 : Int32) := by
      intro e
      have : ∀ m, m < 15 → ¬ nI m = (-1 : Int32) := by decide
      exact this m (by omega) e
    have m0' : (0 : Int32) ≤ nI m := nI_le (a := 0) (by omega) (by omega)
    have qL : ∀ R, f_X11_village_J59 (mst aq (0, 0) 17 (-1 : Int32)) (0 : Int32) = some R → f_X11_village μq = some R := fun R h => by
      refine q_villageS hR.1 ?_
      rw [← hμc, f1, Option.bind_some]
      show (if (0 : Int32) ≤ nI m then if (0 : Int32) ≤ nI m then f_X11_village_J59 (mst aq (0, 0) 17 (-1 : Int32)) (0 : Int32) else _ else _) = _
      rw [if_pos m0', if_pos m0']
      exact h
    obtain ⟨q1, hq1⟩ : ∃ q1, q1 = mst aq (0, 0) 17 (-1 : Int32) := ⟨_, rfl⟩
    have q1r : q1 = mrow aq (0, 0) (upd (aq (0, 0)) 17 (-nI 1)) := by rw [hq1, mst_row]; rfl
    have R5 : RS q1 V' n' N' w' r' := by rw [q1r]; exact R4.row _ (by omega)
    have r2 : q1 (1, 0) (2 : Int32).toNatClampNeg = nI t := by rw [R5.1]; exact E4.2
    have ck2 : ∀ {X : Type} (x : Option X), ck 7114 (2 : Int32) x = x := fun x => q_ck (i := 2) (by omega) (by omega)
    have q12 : (nI t = (12 : Int32)) = (t = 12) := q_eq (b := 12) (by omega) (by omega)
    have hJ : f_X11_village_J59 q1 (0 : Int32) = (if t = 12 then f_X11_village_J83 q1 (1 : Int32) else f_X11_village_J83 q1 (0 : Int32)) := by
      rw [f_X11_village_J59, show f_X11_throwsIf q1 (0 : Int32) (1 : Int32) = some (nI 0, q1) from q_thr0, Option.bind_some, if_pos (show (nI 0, q1).1 = 0 from rfl), ck2]
      show (if q1 (1, 0) (2 : Int32).toNatClampNeg = (12 : Int32) then f_X11_village_J83 q1 (1 : Int32) else (f_X11_village_J83 q1 (0 : Int32))) = _
      rw [r2]
      by_cases c : t = 12
      · rw [if_pos (q12.mpr c), if_pos c]
      · rw [if_neg (fun x => c (q12.mp x)), if_neg c]
    have pq1 : ∀ i, i ≠ 0 → i ≠ 12 → i ≠ 13 → i ≠ 14 → i ≠ 15 → i ≠ 17 → i ≠ 19 → i ≠ 20 → i ≠ 21 → q1 (0, 0) i = μq (0, 0) i := fun i g0 g12 g13 g14 g15 g17 g19 g20 g21 => by
      rw [q1r, mrow_self, q_upd, if_neg g17, qr.2 i g13 g15 g19 g20, p1 i g0 g12 g13 g14 g15 g21]
    have q10 : q1 (0, 0) 0 = nI 0 := by rw [q1r, mrow_self, q_upd, if_neg (by omega), qr.2 0 (by omega) (by omega) (by omega) (by omega)]; exact o2
    have q112 : q1 (0, 0) 12 = nI 0 := by rw [q1r, mrow_self, q_upd, if_neg (by omega), qr.2 12 (by omega) (by omega) (by omega) (by omega)]; exact o3
    have q117 : q1 (0, 0) 17 = -nI 1 := by rw [q1r, mrow_self, q_upd, if_pos rfl]
    have hk2 : g_X10_village sh ln μk = some (if t < 12 then ((.inl (nI (t + 1)), ln', mrow (mst b0 (13, d) 6 (nI (t + 1))) (0, 0) (upd (upd (upd (b0 (0, 0)) 9 (nI d)) 10 (nI j)) 8 (nI 0))), c1 + (0 + kc + 0), s1 + (0 + ks + 0)) else ((.inr 5, ln', b0), c1 + (0 + kc + 0), s1 + (0 + ks + 0))) := by
      rw [hclass, f2', Option.bind_some]
      show addc c1 s1 (addc (0 + kc) (0 + ks) ((f_X8_wrong_0 sh ln' ak).bind fun x57 => _)) = _
      rw [f_X8_wrong_0, Option.bind_some, aw]
      show addc c1 s1 (addc (0 + kc) (0 + ks) (if nI m = (-1 : Int32) then _ else _)) = _
      rw [if_neg hm1]
      show addc c1 s1 (addc (0 + kc) (0 + ks) (ce (sh 2 (((mst ak (0, 0) 12 (-nI 1)) (0, 0) 9).toNatClampNeg) = 1) (if ((mst ak (0, 0) 12 (-nI 1)) (13, ((mst ak (0, 0) 12 (-nI 1)) (0, 0) 9).toNatClampNeg) 6) < (12 : Int32) then ce (sh 2 (((mst ak (0, 0) 12 (-nI 1)) (0, 0) 10).toNatClampNeg) = 1) ((some (mst (mst ak (0, 0) 12 (-nI 1)) (13, ((mst ak (0, 0) 12 (-nI 1)) (0, 0) 10).toNatClampNeg) 6 (((mst ak (0, 0) 12 (-nI 1)) (13, ((mst ak (0, 0) 12 (-nI 1)) (0, 0) 10).toNatClampNeg) 6) + (1 : Int32)))).bind _) else some (((Sum.inr 5 : Int32 ⊕ Nat), ln', mst ak (0, 0) 12 (-nI 1)), 0, 0)))) = _
      rw [← hb0, b09, b010, cej, ced, b0j6, Option.bind_some]
      have q12' : (nI t < (12 : Int32)) = (t < 12) := q_lt (b := 12) (by omega) (by omega)
      by_cases c : t < 12
      · have e6 : b0 (13, d) 6 + (1 : Int32) = nI (t + 1) := by
          rw [b0r, mrow_neA (by omega)]
          have : ak (13, d) 6 = nI t := S4.2.2.2.2.2.2.1.trans E4.2
          rw [this, show (1 : Int32) = nI 1 from rfl, nI_add]
        obtain ⟨b1, hb1⟩ : ∃ b1, b1 = mst b0 (13, d) 6 (nI (t + 1)) := ⟨_, rfl⟩
        have b10 : b1 (0, 0) = b0 (0, 0) := by rw [hb1, mst_row, mrow_neA (by omega)]
        have b19 : (b1 (0, 0) 9).toNatClampNeg = j := by rw [b10]; exact b09
        have b110 : (b1 (0, 0) 10).toNatClampNeg = d := by rw [b10]; exact b010
        have em : mst (mst (mst b1 (0, 0) 9 (nI d)) (0, 0) 10 (nI j)) (0, 0) 8 (0 : Int32) = mrow b1 (0, 0) (upd (upd (upd (b0 (0, 0)) 9 (nI d)) 10 (nI j)) 8 (nI 0)) := by
          rw [mst_row, mst_row, mst_row, mrow_mrow, mrow_mrow, mrow_self, mrow_self, b10]
          rfl
        have en9 : (mrow b1 (0, 0) (upd (upd (upd (b0 (0, 0)) 9 (nI d)) 10 (nI j)) 8 (nI 0)) (0, 0) 9).toNatClampNeg = d := by rw [mrow_self, q_upd, if_neg (by omega), q_upd, if_neg (by omega), q_upd, if_pos rfl, q_cl (by omega)]
        have en6 : mrow b1 (0, 0) (upd (upd (upd (b0 (0, 0)) 9 (nI d)) 10 (nI j)) 8 (nI 0)) (13, d) 6 = nI (t + 1) := by rw [mrow_neA (by omega), hb1, mst_row, mrow_self, q_upd, if_pos rfl]
        rw [if_pos (q12'.mpr c), if_pos c, e6, ← hb1, b19, b110, cej, ced]
        unfold ce
        rw [if_pos hd11, if_pos hj11, Option.bind_some, f_X10_forgetPast, Option.bind_some, em, en9, en6, if_pos hsd]
        rfl
      · rw [if_neg (fun x => c (q12'.mp x)), if_neg c]
        rfl
    by_cases c : t < 12
    · left
      rw [if_pos c] at hk2
      have S5 : STR sh ln' (mst ak (13, d) 6 (nI (t + 1))) d V' n' N' w' (upd r' 2 (nI (t + 1))) Λo := S4.t2 _
      obtain ⟨af, haf⟩ : ∃ af, af = mrow (mst b0 (13, d) 6 (nI (t + 1))) (0, 0) (upd (upd (upd (b0 (0, 0)) 9 (nI d)) 10 (nI j)) 8 (nI 0)) := ⟨_, rfl⟩
      have S6 : STR sh ln' af d V' n' N' w' (upd r' 2 (nI (t + 1))) Λo := S5.n0' (fun q hq => by
        rw [haf, mrow_ne hq, mst_row, mst_row, b0r]
        unfold mrow
        by_cases g : q = (13, d)
        · rw [if_pos g, if_pos g, if_neg (by simp)]
        · rw [if_neg g, if_neg g, if_neg hq])
      obtain ⟨q2, hq2⟩ : ∃ q2, q2 = mst (mst q1 (1, 0) (2 : Int32).toNatClampNeg ((q1 (1, 0) (2 : Int32).toNatClampNeg) + (1 : Int32))) (0, 0) 7 (0 : Int32) := ⟨_, rfl⟩
      have q2r : q2 = mrow (mrow q1 (1, 0) (upd r' 2 (nI (t + 1)))) (0, 0) (upd (q1 (0, 0)) 7 (nI 0)) := by
        rw [hq2, r2, mst_row, mst_row, mrow_neA (by omega), R5.1, show (1 : Int32) = nI 1 from rfl, nI_add]
        rfl
      have R6 : RS q2 V' n' N' w' (upd r' 2 (nI (t + 1))) := ⟨by rw [q2r, mrow_neA (by omega), mrow_self], S6.1.1⟩
      have hq : f_X11_village μq = some (nI (t + 1), q2) := by
        refine qL _ ?_
        rw [← hq1, hJ, if_neg (by omega), f_X11_village_J83, show f_X11_throwsIf q1 (0 : Int32) (2 : Int32) = some (nI 0, q1) from q_thr0, Option.bind_some, if_pos (show (nI 0, q1).1 = 0 from rfl), ck2, ck2, ck2]
        show some ((mst (mst q1 (1, 0) (2 : Int32).toNatClampNeg ((q1 (1, 0) (2 : Int32).toNatClampNeg) + (1 : Int32))) (0, 0) 7 (0 : Int32)) (1, 0) (2 : Int32).toNatClampNeg, mst (mst q1 (1, 0) (2 : Int32).toNatClampNeg ((q1 (1, 0) (2 : Int32).toNatClampNeg) + (1 : Int32))) (0, 0) 7 (0 : Int32)) = _
        rw [← hq2, R6.1]
        rfl
      have e8 : ∀ i, af (0, 0) i = if i = 8 then nI 0 else if i = 10 then nI j else if i = 9 then nI d else if i = 12 then -nI 1 else μk (0, 0) i := fun i => by
        rw [haf, mrow_self, q_upd, q_upd, q_upd, b0r, mrow_self, q_upd, a0]
      refine ⟨q2, af, ln', c1 + (0 + kc + 0), s1 + (0 + ks + 0), V', n', N', w', upd r' 2 (nI (t + 1)), hq, by rw [hk2, haf], ?_, c, R6, S6, ⟨fun y => ?_, by rw [q_upd, if_pos rfl]⟩, ⟨fun k hk => ?_, fun i g0 g7 g12 g13 g14 g15 g17 g19 g20 g21 => ?_⟩, ?_, ?_, ?_, ?_, ?_, by rw [e8]; rfl, by rw [e8]; rfl, by rw [e8]; rfl, by rw [e8]; rfl, fun i g8 g9 g10 g12 => by rw [e8, if_neg g8, if_neg g10, if_neg g9, if_neg g12], ?_⟩
      · have := G1.tr G2
        rw [Nat.zero_add, Nat.zero_add, Nat.add_zero, Nat.add_zero]
        exact this
      · rw [u2 _ (by omega), u2 _ (by omega)] at y
        have := E4.1 y
        exact ⟨fun i g0 g1 => by rw [u2 _ (by omega)]; exact this.1 i g0 g1, fun i g0 g1 => by rw [u2 _ (by omega)]; exact this.2 i g0 g1⟩
      · have hk' := hk
        simp at hk'
        rw [q2r, mrow_neA (fun e => hk'.1 e.symm), mrow_neA (fun e => hk'.2.1 e.symm), q1r, mrow_neA (fun e => hk'.1 e.symm)]
        exact hQT aq qr k hk
      · rw [q2r, mrow_self, q_upd, if_neg g7]
        exact pq1 i g0 g12 g13 g14 g15 g17 g19 g20 g21
      · intro q g0 g2 g5 g6 g12 gd g13
        rw [haf, mrow_ne g0, mst_row, mrow_ne g13, b0r, mrow_ne g0]
        exact fT ak fw q g0 g2 g5 g6 g12 gd g13
      · rw [q2r, mrow_self, q_upd, if_neg (by omega)]; exact q10
      · rw [q2r, mrow_self, q_upd, if_pos rfl]
      · rw [q2r, mrow_self, q_upd, if_neg (by omega)]; exact q112
      · rw [q2r, mrow_self, q_upd, if_neg (by omega)]; exact q117
      · rw [haf, mrow_neA (by omega), mst_row, mrow_neA (by omega), b0r, mrow_neA (by omega)]
        exact f2 ak fw
    · right
      have hteq : t = 12 := by omega
      rw [if_neg c] at hk2
      have hthr : f_X11_throwsIf q1 (1 : Int32) (2 : Int32) = some (nI 1, mst q1 (0, 0) 0 2) := q_thr1
      obtain ⟨q2, hq2⟩ : ∃ q2, q2 = mst q1 (0, 0) 0 (2 : Int32) := ⟨_, rfl⟩
      have q2r : q2 = mrow q1 (0, 0) (upd (q1 (0, 0)) 0 (nI 2)) := by rw [hq2, mst_row]; rfl
      have h3 : ∀ k, k < 6277 → q2 (3, 0) k = r k := fun k hk => by
        rw [q2r, mrow_neA (by omega), q1r, mrow_neA (by omega), qr.1 3 (by decide)]
        exact c3 k hk
      have hq : f_X11_village μq = some (nI 0, mrow q2 (1, 0) (fun i => if i < 6277 then r i else q2 (1, 0) i)) := by
        refine qL _ ?_
        rw [← hq1, hJ, if_pos hteq, f_X11_village_J83, hthr, Option.bind_some, if_neg (show ¬ (nI 1, mst q1 (0, 0) 0 2).1 = 0 by show ¬ nI 1 = 0; decide), ← hq2]
        exact q_restore h3
      have e6 : ∀ i, i < 6277 → (fun i => if i < 6277 then r i else q2 (1, 0) i) i = r i := fun i hi => if_pos hi
      refine ⟨5, -nI 1, _, b0, ln', c1 + (0 + kc + 0), s1 + (0 + ks + 0), _, hq, hk2, ?_, Or.inr rfl, ?_, ?_, ⟨mrow_self _ _ _, hR.2.c6 e6⟩, e6, ⟨fun k hk => ?_, fun i g0 g7 g12 g13 g14 g15 g17 g19 g20 g21 => ?_⟩, ?_, ?_, ?_, ?_, fun i hi => ?_, ?_⟩
      · have := G1.tr G2
        rw [Nat.zero_add, Nat.zero_add, Nat.add_zero, Nat.add_zero]
        exact this
      · rw [mrow_neA (by omega), q2r, mrow_self, q_upd, if_pos rfl]; rfl
      · rw [mrow_neA (by omega), q2r, mrow_self, q_upd, if_neg (by omega)]
        exact pq1 7 (by omega) (by omega) (by omega) (by omega) (by omega) (by omega) (by omega) (by omega) (by omega)
      · have hk' := hk
        simp at hk'
        rw [mrow_neA (fun e => hk'.2.1 e.symm), q2r, mrow_neA (fun e => hk'.1 e.symm), q1r, mrow_neA (fun e => hk'.1 e.symm)]
        exact hQT aq qr k hk
      · rw [mrow_neA (by omega), q2r, mrow_self, q_upd, if_neg g0]
        exact pq1 i g0 g12 g13 g14 g15 g17 g19 g20 g21
      · intro q g0 g2 g5 g6 g12 gd g13
        rw [b0r, mrow_ne g0]
        exact fT ak fw q g0 g2 g5 g6 g12 gd g13
      · rw [mrow_neA (by omega), q2r, mrow_self, q_upd, if_neg (by omega)]; exact q112
      · rw [mrow_neA (by omega), q2r, mrow_self, q_upd, if_neg (by omega)]; exact q117
      · rw [b0r, mrow_self, q_upd, if_pos rfl]
      · rw [b0r, mrow_self, q_upd, if_neg hi, a0]
      · rw [b0r, mrow_neA (by omega)]; exact f2 ak fw
  · right
    have a0 := f0 ak fv
    obtain ⟨b0, hb0⟩ : ∃ b0, b0 = mst ak (0, 0) 12 (nI x) := ⟨_, rfl⟩
    have b0r : b0 = mrow ak (0, 0) (upd (ak (0, 0)) 12 (nI x)) := by rw [hb0, mst_row]
    obtain ⟨q1, hq1⟩ : ∃ q1, q1 = mst aq (0, 0) 17 (nI x) := ⟨_, rfl⟩
    have q1r : q1 = mrow aq (0, 0) (upd (aq (0, 0)) 17 (nI x)) := by rw [hq1, mst_row]
    have hk2 : g_X10_village sh ln μk = some ((.inr 3, ln', b0), c1 + (0 + kc + 0), s1 + (0 + ks + 0)) := by
      rw [hclass, f2', Option.bind_some]
      show addc c1 s1 (addc (0 + kc) (0 + ks) ((f_X8_wrong_0 sh ln' ak).bind fun x57 => _)) = _
      rw [f_X8_wrong_0, Option.bind_some, f7]
      show addc c1 s1 (addc (0 + kc) (0 + ks) (if -nI 1 = (-1 : Int32) then some (((Sum.inr 3 : Int32 ⊕ Nat), ln', mst ak (0, 0) 12 (nI x)), 0, 0) else _)) = _
      rw [if_pos (show -nI 1 = (-1 : Int32) from rfl), ← hb0]
      rfl
    have hthr : f_X11_throwsIf q1 (1 : Int32) (1 : Int32) = some (nI 1, mst q1 (0, 0) 0 1) := q_thr1
    obtain ⟨q2, hq2⟩ : ∃ q2, q2 = mst q1 (0, 0) 0 (1 : Int32) := ⟨_, rfl⟩
    have q2r : q2 = mrow q1 (0, 0) (upd (q1 (0, 0)) 0 (nI 1)) := by rw [hq2, mst_row]; rfl
    have h3 : ∀ k, k < 6277 → q2 (3, 0) k = r k := fun k hk => by
      rw [q2r, mrow_neA (by omega), q1r, mrow_neA (by omega), qr.1 3 (by decide)]
      exact c3 k hk
    have hq : f_X11_village μq = some (nI 0, mrow q2 (1, 0) (fun i => if i < 6277 then r i else q2 (1, 0) i)) := by
      refine q_villageS hR.1 ?_
      rw [← hμc, f1, Option.bind_some]
      show (if (0 : Int32) ≤ -nI 1 then _ else (if (0 : Int32) ≤ -nI 1 then _ else f_X11_village_J59 (mst aq (0, 0) 17 (aq (0, 0) 15)) (1 : Int32))) = _
      rw [if_neg (by decide), if_neg (by decide), f15, ← hq1, f_X11_village_J59, hthr, Option.bind_some, if_neg (show ¬ (nI 1, mst q1 (0, 0) 0 1).1 = 0 by show ¬ nI 1 = 0; decide), ← hq2]
      exact q_restore h3
    have e6 : ∀ i, i < 6277 → (fun i => if i < 6277 then r i else q2 (1, 0) i) i = r i := fun i hi => if_pos hi
    have pq1 : ∀ i, i ≠ 0 → i ≠ 12 → i ≠ 13 → i ≠ 14 → i ≠ 15 → i ≠ 17 → i ≠ 19 → i ≠ 20 → i ≠ 21 → q1 (0, 0) i = μq (0, 0) i := fun i g0 g12 g13 g14 g15 g17 g19 g20 g21 => by
      rw [q1r, mrow_self, q_upd, if_neg g17, qr.2 i g13 g15 g19 g20, p1 i g0 g12 g13 g14 g15 g21]
    refine ⟨3, nI x, _, b0, ln', c1 + (0 + kc + 0), s1 + (0 + ks + 0), _, hq, hk2, ?_, Or.inl rfl, ?_, ?_, ⟨mrow_self _ _ _, hR.2.c6 e6⟩, e6, ⟨fun k hk => ?_, fun i g0 g7 g12 g13 g14 g15 g17 g19 g20 g21 => ?_⟩, ?_, ?_, ?_, ?_, fun i hi => ?_, ?_⟩
    · have := G1.tr G2
      rw [Nat.zero_add, Nat.zero_add, Nat.add_zero, Nat.add_zero]
      exact this
    · rw [mrow_neA (by omega), q2r, mrow_self, q_upd, if_pos rfl]; rfl
    · rw [mrow_neA (by omega), q2r, mrow_self, q_upd, if_neg (by omega)]
      exact pq1 7 (by omega) (by omega) (by omega) (by omega) (by omega) (by omega) (by omega) (by omega) (by omega)
    · have hk' := hk
      simp at hk'
      rw [mrow_neA (fun e => hk'.2.1 e.symm), q2r, mrow_neA (fun e => hk'.1 e.symm), q1r, mrow_neA (fun e => hk'.1 e.symm)]
      exact hQT aq qr k hk
    · rw [mrow_neA (by omega), q2r, mrow_self, q_upd, if_neg g0]
      exact pq1 i g0 g12 g13 g14 g15 g17 g19 g20 g21
    · intro q g0 g2 g5 g6 g12 gd g13
      rw [b0r, mrow_ne g0]
      exact fT ak fv q g0 g2 g5 g6 g12 gd g13
    · rw [mrow_neA (by omega), q2r, mrow_self, q_upd, if_neg (by omega), q1r, mrow_self, q_upd, if_neg (by omega), qr.2 12 (by omega) (by omega) (by omega) (by omega)]; exact o3
    · rw [mrow_neA (by omega), q2r, mrow_self, q_upd, if_neg (by omega), q1r, mrow_self, q_upd, if_pos rfl]
    · rw [b0r, mrow_self, q_upd, if_pos rfl]
    · rw [b0r, mrow_self, q_upd, if_neg hi, a0]
    · rw [b0r, mrow_neA (by omega)]; exact f2 ak fv
end VIL
