-- the relation of everything
def EXX (r : Nat → Int32) : Prop := (r 7 = nI 0 ∧ r 8 = nI 0 → EZ r) ∧ ∃ x, x ≤ 12 ∧ r 2 = nI x
def pasR (μq : Mm) (r : Nat → Int32) (i : Nat) : Nat → Int32 := fun k => if k < 5440 then μq (5, 0) (5440 * i + k) else r k
def slot (t c i : Nat) : Nat := 2 + (t + 8 - c + i) % 8
def PASS (sh : Sh) (ln : Nat → Nat) (μq μk : Mm) (r : Nat → Int32) (t c : Nat) (Λo : Option LW) : Prop := ∀ i, i < c → sh 2 (slot t c i) = 1 ∧ ∃ V n N w0, STR sh ln μk (slot t c i) V n N w0 (pasR μq r i) Λo ∧ EXX (pasR μq r i)
def IMG (sh : Sh) (ln : Nat → Nat) (μq μk : Mm) : Prop := (μq (0, 0) 6 = nI 0 ∧ sh 2 10 = 0) ∨ (μq (0, 0) 6 = nI 1 ∧ sh 2 10 = 1 ∧ ∃ V n N w0 Λ', STR sh ln μk 10 V n N w0 (μq (2, 0)) Λ' ∧ EXX (μq (2, 0)))
def SHS (sh : Sh) (ln : Nat → Nat) : Prop := (∀ s, sh 2 s = 0 ∨ sh 2 s = 1) ∧ ∀ s, 2 ≤ s → s < 11 → sh 2 s = 0 → frl ln s = true
def RNG (μq μk : Mm) (t c : Nat) : Prop := μk (0, 0) 7 = nI t ∧ t < 8 ∧ μk (0, 0) 8 = nI c ∧ c ≤ 8 ∧ μq (0, 0) 7 = nI c
def RLL (sh : Sh) (ln : Nat → Nat) (μq μk : Mm) (V n N w0 : Nat) (r : Nat → Int32) (Λo : Option LW) (j d t c : Nat) (T : Nat → Nat) (z : Nat) : Prop :=
  (RS μq V n N w0 r ∧ STR sh ln μk j V n N w0 r Λo ∧ EXX r) ∧ (ND sh μk j d ∧ j < 2 ∧ d < 2) ∧ (LN ln ∧ LB ln ∧ UL ln) ∧ TP μq μk T z ∧ RNG μq μk t c ∧ PASS sh ln μq μk r t c Λo ∧ IMG sh ln μq μk ∧ μk (0, 0) 12 = μq (0, 0) 17 ∧ SHS sh ln
def REL (sh : Sh) (ln : Nat → Nat) (μq μk : Mm) : Prop := ∃ V n N w0 r Λo j d t c T z, RLL sh ln μq μk V n N w0 r Λo j d t c T z
-- what it costs
def POc (sh : Sh) (ln : Nat → Nat) : Nat := PC ln + smN 11 (fun s => if sh 2 s = 0 then 11 else 0)
def POs (sh : Sh) (ln : Nat → Nat) : Nat := PS ln + smN 11 (fun s => if sh 2 s = 0 then 40 else 0)
def PAY (sh : Sh) (ln : Nat → Nat) (sh' : Sh) (ln' : Nat → Nat) (kc ks : Nat) : Prop := kc + POc sh' ln' ≤ POc sh ln + 2 ∧ ks + POs sh' ln' ≤ POs sh ln + 514 ∧ sh' 4 2 ≤ sh 4 2 + 1
/-- one call of both: alike, or a throw that the reference tells -/
def STP (fq : Option (Int32 × Mm)) (gk : Option (((Int32 ⊕ Nat) × Sh × (Nat → Nat) × Mm) × Nat × Nat)) (sh : Sh) (ln : Nat → Nat) (md : Nat → Nat) : Prop :=
  (∃ x a sh' ln' b kc ks, fq = some (x, a) ∧ gk = some ((.inl x, sh', ln', b), kc, ks) ∧ a (0, 0) 0 = nI 0 ∧ REL sh' ln' a b ∧ PAY sh ln sh' ln' kc ks) ∨
  (∃ e x a sh' ln' b kc ks, gk = some ((.inr e, sh', ln', b), kc, ks) ∧ fq = some (x, a) ∧ a (0, 0) 0 = nI (md e) ∧ 1 ≤ md e ∧ md e < 4 ∧ REL sh' ln' a b ∧ PAY sh ln sh' ln' kc ks)
def lf0 (sh : Sh) (ln : Nat → Nat) (x : Option ((Int32 ⊕ Nat) × Mm)) : Option (((Int32 ⊕ Nat) × Sh × (Nat → Nat) × Mm) × Nat × Nat) := x.map (fun y => ((y.1, sh, ln, y.2), 0, 0))
def lfn (sh : Sh) (ln : Nat → Nat) (x : Option (Int32 × Mm)) : Option (((Int32 ⊕ Nat) × Sh × (Nat → Nat) × Mm) × Nat × Nat) := x.map (fun y => ((.inl y.1, sh, ln, y.2), 0, 0))
section REL
variable {sh sh' : Sh} {ln ln' : Nat → Nat} {μq μk a b : Mm} {V n N w0 : Nat} {r : Nat → Int32} {Λo : Option LW} {j d t c z : Nat} {T : Nat → Nat} {md : Nat → Nat}
theorem PAY.rf : PAY sh ln sh ln 0 0 := ⟨by omega, by omega, by omega⟩
theorem GR.pay {dd kc ks : Nat} (h : GR dd ln ln' kc ks) : PAY sh ln sh ln' kc ks := by
  have h1 := h.1.1
  have h2 := h.1.2
  unfold PAY POc POs
  exact ⟨by omega, by omega, by omega⟩
theorem frl_gr {dd kc ks s : Nat} (h : GR dd ln ln' kc ks) (hne : s ≠ dd) (hf : frl ln s = true) : frl ln' s = true := by
  have g := h.2.2.2.2
  unfold frl at *
  rw [g _ (by omega), g _ (by omega), g _ (by omega), g _ (by omega), g _ (by omega)]
  exact hf
theorem SHS.gr {dd kc ks : Nat} (h : SHS sh ln) (hG : GR dd ln ln' kc ks) (hd : sh 2 dd = 1) : SHS sh ln' := ⟨h.1, fun s h2 h11 h0 => frl_gr hG (fun e => by rw [e, hd] at h0; cases h0) (h.2 s h2 h11 h0)⟩
theorem slot_lt (t c i : Nat) : 2 ≤ slot t c i ∧ slot t c i < 10 := by unfold slot; omega
/-- what a query leaves -/
theorem RLL.q (h : RLL sh ln μq μk V n N w0 r Λo j d t c T z) (hR : RS a V n N w0 r) (hq : ∀ i, i ≠ 0 → a (0, 0) i = μq (0, 0) i) (h2 : a (2, 0) = μq (2, 0)) (h5 : a (5, 0) = μq (5, 0)) (h11 : a (11, 0) = μq (11, 0)) (hk : FrX μk b) : RLL sh ln a b V n N w0 r Λo j d t c T z := by
  obtain ⟨⟨g1, g2, g3⟩, ⟨g4, g5⟩, g6, g7, g8, g9, g10, g11, g12⟩ := h
  have k0 : b (0, 0) = μk (0, 0) := hk _ (by simp) (by simp)
  have k2 : b (2, 0) = μk (2, 0) := hk _ (by simp) (by simp)
  have k12 : b (12, 0) = μk (12, 0) := hk _ (by simp) (by simp)
  have ep : ∀ i, pasR a r i = pasR μq r i := fun i => by unfold pasR; rw [h5]
  refine ⟨⟨hR, g2.X hk, g3⟩, ⟨by unfold ND at *; rw [k0]; exact g4, g5⟩, g6, ?_, ?_, fun i hi => ?_, ?_, by rw [k0, hq _ (by omega)]; exact g11, g12⟩
  · unfold TP at *
    rw [k2, k12, hq _ (by omega), h11]
    exact g7
  · unfold RNG at *
    rw [k0, hq _ (by omega)]
    exact g8
  · obtain ⟨e1, V', n', N', w', e2, e3⟩ := g9 i hi
    rw [ep]
    exact ⟨e1, V', n', N', w', e2.X hk, e3⟩
  · rcases g10 with ⟨e1, e2⟩ | ⟨e1, e2, V', n', N', w', Λ', e3, e4⟩
    · exact Or.inl ⟨by rw [hq _ (by omega)]; exact e1, e2⟩
    · refine Or.inr ⟨by rw [hq _ (by omega)]; exact e1, e2, V', n', N', w', Λ', ?_, ?_⟩
      · rw [h2]; exact e3.X hk
      · rw [h2]; exact e4
theorem AGX.stp {fq : Option (Int32 × Mm)} {gk : Option ((Int32 ⊕ Nat) × Mm)} (h : AGX fq gk μq μk V n N w0 r md) (hr : RLL sh ln μq μk V n N w0 r Λo j d t c T z) : STP fq (lf0 sh ln gk) sh ln md := by
  rcases h with ⟨x, a, b, e1, e2, e3, ⟨q0, q2, q5, q11⟩, e5⟩ | ⟨e, e2, e3, e4, e1⟩
  · refine Or.inl ⟨x, a, sh, ln, b, 0, 0, e1, by rw [e2]; rfl, by rw [q0, q_upd, if_pos rfl], ⟨V, n, N, w0, r, Λo, j, d, t, c, T, z, hr.q e3 (fun i hi => by rw [q0, q_upd, if_neg hi]) q2 q5 q11 e5⟩, PAY.rf⟩
  · refine Or.inr ⟨e, 0, _, sh, ln, μk, 0, 0, by rw [e2]; rfl, e1, ?_, e3, e4, ⟨V, n, N, w0, r, Λo, j, d, t, c, T, z, hr.q ?_ (fun i hi => ?_) ?_ ?_ ?_ FrX.rf⟩, PAY.rf⟩
    · rw [mst_row, mrow_self, q_upd, if_pos rfl]
    · exact (hr.1.1.st0).st0
    · rw [mst_row, mrow_self, q_upd, if_neg hi, mst_row, mrow_self, q_upd, if_neg hi]
    · rw [mst_row, mrow_neA (by omega), mst_row, mrow_neA (by omega)]
    · rw [mst_row, mrow_neA (by omega), mst_row, mrow_neA (by omega)]
    · rw [mst_row, mrow_neA (by omega), mst_row, mrow_neA (by omega)]
theorem AGN.stp {fq fk : Option (Int32 × Mm)} (h : AGN fq fk μq μk V n N w0 r) (hr : RLL sh ln μq μk V n N w0 r Λo j d t c T z) : STP fq (lfn sh ln fk) sh ln md := by
  obtain ⟨x, a, b, e1, e2, e3, ⟨q0, q2, q5, q11⟩, e5⟩ := h
  exact Or.inl ⟨x, a, sh, ln, b, 0, 0, e1, by rw [e2]; rfl, by rw [q0, q_upd, if_pos rfl], ⟨V, n, N, w0, r, Λo, j, d, t, c, T, z, hr.q e3 (fun i hi => by rw [q0, q_upd, if_neg hi]) q2 q5 q11 e5⟩, PAY.rf⟩
/-- States do not look at which other States there are -/
theorem STR.shx (h : STR sh ln μk j V n N w0 r Λo) (h4 : sh' 4 2 = sh 4 2) (h1 : sh' 1 = sh 1) : STR sh' ln μk j V n N w0 r Λo := by
  obtain ⟨g1, g2, g3, g4⟩ := h
  refine ⟨g1, g2, ?_, g4⟩
  unfold LRk at *
  cases Λo with
  | none => exact g3
  | some Λ =>
    obtain ⟨i, b, x1, x2, x3, x4, x5⟩ := g3
    refine ⟨i, b, x1, by rw [h4]; exact x2, x3, ?_, x5⟩
    unfold LWk at *
    rw [h1]
    exact x4
theorem shs_2 {s v : Nat} (x : Nat) : shs sh 2 s v 2 x = if x = s then v else sh 2 x := by
  unfold shs
  by_cases e : x = s
  · rw [if_pos ⟨rfl, e⟩, if_pos e]
  · rw [if_neg (fun y => e y.2), if_neg e]
theorem fresh_S (s : Nat) (μ : Mm) : FrS s μ (fresh s μ) := fun q _ _ e2 e3 => by
  unfold fresh
  rw [mrow_ne e3, mrow_ne (fun y => e2 (by rw [y]; exact ⟨rfl, by show 15 + 5 * s ≤ 15 + 5 * s + 4; omega, by show 15 + 5 * s + 4 < 20 + 5 * s; omega⟩)), mrow_ne (fun y => e2 (by rw [y]; exact ⟨rfl, by show 15 + 5 * s ≤ 15 + 5 * s + 3; omega, by show 15 + 5 * s + 3 < 20 + 5 * s; omega⟩)), mrow_ne (fun y => e2 (by rw [y]; exact ⟨rfl, by show 15 + 5 * s ≤ 15 + 5 * s + 2; omega, by show 15 + 5 * s + 2 < 20 + 5 * s; omega⟩)), mrow_ne (fun y => e2 (by rw [y]; exact ⟨rfl, by show 15 + 5 * s ≤ 15 + 5 * s + 1; omega, by show 15 + 5 * s + 1 < 20 + 5 * s; omega⟩)), mrow_ne (fun y => e2 (by rw [y]; exact ⟨rfl, by show 15 + 5 * s ≤ 15 + 5 * s + 0; omega, by show 15 + 5 * s + 0 < 20 + 5 * s; omega⟩))]
theorem smN_shs {s v : Nat} (hs : s < 11) (h0 : sh 2 s = 0) : smN 11 (fun x => if shs sh 2 s 1 2 x = 0 then v else 0) + v ≤ smN 11 (fun x => if sh 2 x = 0 then v else 0) := by
  refine smN_one (c := s) hs ?_ (fun k hk => ?_)
  · show (if shs sh 2 s 1 2 s = 0 then v else 0) + v ≤ if sh 2 s = 0 then v else 0
    rw [shs_2, if_pos rfl, if_neg (by omega), if_pos h0]
    omega
  · show (if shs sh 2 s 1 2 k = 0 then v else 0) = if sh 2 k = 0 then v else 0
    rw [shs_2, if_neg hk]
/-- what is ahead of an act is remembered: the class -/
theorem k_rem (h : RLL sh ln μq μk V n N w0 r Λo j d t c T z) :
    ∃ sh' ln' b kc ks, f_X10_rememberO sh ln μk = some ((sh', ln', b), kc, ks) ∧ (kc + POc sh' ln' ≤ POc sh ln ∧ ks + POs sh' ln' ≤ POs sh ln) ∧ STR sh' ln' b j V n N w0 (upd r 7 (nI 1)) Λo ∧ STR sh' ln' b (2 + t) V n N w0 r Λo ∧ (LN ln' ∧ LB ln' ∧ UL ln') ∧ SHS sh' ln' ∧ (∀ s, sh' 2 s = if s = 2 + t then 1 else sh 2 s) ∧ sh' 4 2 = sh 4 2 ∧
      (∀ i V n N w0 r Λo, i ≠ 2 + t → i ≠ j → STR sh ln μk i V n N w0 r Λo → STR sh' ln' b i V n N w0 r Λo) ∧ (∀ i, b (0, 0) i = if i = 8 then nI (if c < 8 then c + 1 else 8) else if i = 7 then nI (if t + 1 < 8 then t + 1 else 0) else μk (0, 0) i) ∧ b (2, 0) = μk (2, 0) ∧ b (12, 0) = μk (12, 0) := by
  obtain ⟨⟨g1, g2, g3⟩, ⟨g4, g5, g6⟩, ⟨hL, hB, hU⟩, g7, ⟨r7, rt, r8, rc, rq⟩, g9, g10, g11, g12⟩ := h
  have hj11 := g4.2.2.1
  have hsj := g4.2.2.2.2.2.1
  have hne : 2 + t ≠ j := by omega
  obtain ⟨sh1, m1, kc1, ks1, ep, s1, s4, s11, hF1, hp⟩ : ∃ sh1 m1 kc1 ks1, f_X10_pastAtO sh ln μk (μk (0, 0) 7) = some ((2 + t, sh1, m1), kc1, ks1) ∧ (∀ s, sh1 2 s = if s = 2 + t then 1 else sh 2 s) ∧ sh1 4 2 = sh 4 2 ∧ sh1 1 = sh 1 ∧ FrS (2 + t) μk m1 ∧ (kc1 + POc sh1 ln ≤ POc sh ln ∧ ks1 + POs sh1 ln ≤ POs sh ln) := by
    have q0 : ¬ nI t < (0 : Int32) := nI_nneg (by omega)
    have q8 : nI t < (8 : Int32) := nI_lt (b := 8) rt (by omega)
    rcases g12.1 (2 + t) with h0 | h0
    · refine ⟨shs sh 2 (2 + t) 1, fresh (2 + t) μk, 11, 40, ?_, fun s => shs_2 s, by unfold shs; rw [if_neg (by omega)], by funext y; unfold shs; rw [if_neg (by omega)], fresh_S _ _, ?_⟩
      · have hf := g12.2 (2 + t) (by omega) (by omega) h0
        rw [f_X10_pastAtO, r7, if_neg q0, if_pos q8, q_ck (by omega) rt, q_cl (by omega), if_pos h0]
        unfold ce
        rw [if_pos hf]
      · have e1 := smN_shs (v := 11) (show 2 + t < 11 by omega) h0
        have e2 := smN_shs (v := 40) (show 2 + t < 11 by omega) h0
        unfold POc POs
        omega
    · refine ⟨sh, μk, 0, 0, ?_, fun s => ?_, rfl, rfl, FrS.rf, by omega⟩
      · rw [f_X10_pastAtO, r7, if_neg q0, if_pos q8, q_ck (by omega) rt, q_cl (by omega), if_neg (by omega)]
      · by_cases e : s = 2 + t
        · rw [if_pos e, e]; exact h0
        · rw [if_neg e]
  have m10 : m1 (0, 0) = μk (0, 0) := hF1.n0 (by omega)
  have S1 : STR sh1 ln m1 j V n N w0 r Λo := (g2.o hF1 (by omega)).shx s4 s11
  have a9 : (m1 (0, 0) 9).toNatClampNeg = j := by rw [m10]; exact g4.c9
  have st1 : sh1 2 (2 + t) = 1 := by rw [s1, if_pos rfl]
  have sj1 : sh1 2 j = 1 := by rw [s1, if_neg (by omega)]; exact hsj
  obtain ⟨l2, m2, c2, k2, e2, G2, S2, F2⟩ := k_becomeA S1 hB hU (show 2 + t < 11 by omega) hne
  have F12 : FrS (2 + t) μk m2 := hF1.tr F2
  have m20 : m2 (0, 0) = μk (0, 0) := F12.n0 (by omega)
  obtain ⟨m3, hm3⟩ : ∃ m3, m3 = mst (mst m2 (0, 0) 7 (nI (if t + 1 < 8 then t + 1 else 0))) (0, 0) 8 (nI (if c < 8 then c + 1 else 8)) := ⟨_, rfl⟩
  have hm3k : ∀ q : Ky, q ≠ (0, 0) → m3 q = m2 q := fun q hq => by rw [hm3, mst_row, mrow_ne hq, mst_row, mrow_ne hq]
  have hm30 : ∀ i, m3 (0, 0) i = if i = 8 then nI (if c < 8 then c + 1 else 8) else if i = 7 then nI (if t + 1 < 8 then t + 1 else 0) else μk (0, 0) i := fun i => by
    rw [hm3, mst_row, mrow_self, q_upd, mst_row, mrow_self, q_upd, m20]
  have a93 : (m3 (0, 0) 9).toNatClampNeg = j := by rw [hm30, if_neg (by omega), if_neg (by omega)]; exact g4.c9
  have e7 : (if (8 : Int32) ≤ nI t + (1 : Int32) then (0 : Int32) else nI t + (1 : Int32)) = nI (if t + 1 < 8 then t + 1 else 0) := by
    have ql : ((8 : Int32) ≤ nI (t + 1)) = (8 ≤ t + 1) := q_le (a := 8) (by omega) (by omega)
    rw [show (1 : Int32) = nI 1 from rfl, nI_add]
    by_cases e : t + 1 < 8
    · rw [if_neg (fun y => by have := ql.mp y; omega), if_pos e]
    · rw [if_pos (ql.mpr (by omega)), if_neg e]; rfl
  have e8 : (if (8 : Int32) < nI c + (1 : Int32) then (8 : Int32) else nI c + (1 : Int32)) = nI (if c < 8 then c + 1 else 8) := by
    have ql : ((8 : Int32) < nI (c + 1)) = (8 < c + 1) := q_lt (a := 8) (by omega) (by omega)
    rw [show (1 : Int32) = nI 1 from rfl, nI_add]
    by_cases e : c < 8
    · rw [if_neg (fun y => by have := ql.mp y; omega), if_pos e]
    · rw [if_pos (ql.mpr (by omega)), if_neg e]; rfl
  have S3 : STR sh1 l2 m3 (2 + t) V n N w0 r Λo := S2.n0' hm3k
  have S3j : STR sh1 l2 m3 j V n N w0 r Λo := ((S1.o F2 (by omega)).gr hB G2).n0' hm3k
  have hfin : f_X10_rememberO sh ln μk = some ((sh1, l2, mst m3 (13, j) 7 (1 : Int32)), kc1 + (c2 + 0), ks1 + (k2 + 0)) := by
    rw [f_X10_rememberO, ep, Option.bind_some]
    show addc kc1 ks1 (ce (sh1 2 (2 + t) = 1) (ce (sh1 2 ((m1 (0, 0) 9).toNatClampNeg) = 1) ((f_X6_becomeA sh1 ln (2 + t) ((m1 (0, 0) 9).toNatClampNeg) m1).bind _))) = _
    rw [a9]
    unfold ce
    rw [if_pos st1, if_pos sj1, e2, Option.bind_some]
    show addc kc1 ks1 (addc c2 k2 ((some (mst (mst m2 (0, 0) 7 (if (8 : Int32) ≤ ((m2 (0, 0) 7) + (1 : Int32)) then (0 : Int32) else ((m2 (0, 0) 7) + (1 : Int32)))) (0, 0) 8 (if (8 : Int32) < ((m2 (0, 0) 8) + (1 : Int32)) then (8 : Int32) else ((m2 (0, 0) 8) + (1 : Int32))))).bind fun μ4 => if (sh1 2 ((μ4 (0, 0) 9).toNatClampNeg) = 1) then (some ((sh1, l2, mst μ4 (13, (μ4 (0, 0) 9).toNatClampNeg) 7 (1 : Int32)), 0, 0)) else none)) = _
    rw [m20, r7, r8, e7, e8, ← hm3, Option.bind_some, a93, if_pos sj1]
    rfl
  have hFj : ∀ q : Ky, q ≠ (13, j) → mst m3 (13, j) 7 (1 : Int32) q = m3 q := fun q hq => by rw [mst_row, mrow_ne hq]
  refine ⟨sh1, l2, _, _, _, hfin, ?_, S3j.don, S3.o FrS.mst (by omega), ⟨hL.gr G2, hB.gr G2, hU.gr G2⟩, ⟨fun s => ?_, fun s h2 h11 h0 => ?_⟩, s1, s4, fun i V n N w0 r Λo h1 h2 hS => ?_, fun i => ?_, ?_, ?_⟩
  · have p1 := G2.1.1
    have p2 := G2.1.2
    unfold POc POs at *
    omega
  · rw [s1]
    by_cases e : s = 2 + t
    · rw [if_pos e]; exact Or.inr rfl
    · rw [if_neg e]; exact g12.1 s
  · rw [s1] at h0
    by_cases e : s = 2 + t
    · rw [if_pos e] at h0; cases h0
    · rw [if_neg e] at h0
      exact frl_gr G2 e (g12.2 s h2 h11 h0)
  · exact ((((hS.o hF1 h1).shx s4 s11).o F2 h1).gr hB G2).n0' hm3k |>.o FrS.mst h2
  · rw [hFj _ (by simp)]; exact hm30 i
  · rw [hFj _ (by simp), hm3k _ (by simp)]; exact F12.n0 (by omega)
  · rw [hFj _ (by simp), hm3k _ (by simp)]; exact F12 _ (by simp) (by simp) (by simp) (by simp)
end REL
