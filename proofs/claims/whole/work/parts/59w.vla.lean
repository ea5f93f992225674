-- all lines of the village
theorem whc_l {S R : Type} {f : S → Option ((S ⊕ R) × Nat × Nat)} {s s' : S} {a b c e : Nat} {r : R × Nat × Nat} (h : f s = some (.inl s', c, e)) (h2 : Wh (whc f) (s', a + c, b + e) = some r) : Wh (whc f) (s, a, b) = some r := by
  refine Wh_step (s' := (s', a + c, b + e)) ?_ h2
  unfold whc
  rw [h]
  rfl
theorem whc_r {S R : Type} {f : S → Option ((S ⊕ R) × Nat × Nat)} {s : S} {a b c e : Nat} {r : R} (h : f s = some (.inr r, c, e)) : Wh (whc f) (s, a, b) = some (r, a + c, b + e) := by
  refine Wh_end ?_
  unfold whc
  rw [h]
  rfl
/-- all lines are right, or both tell the same place -/
def LO (fq : Option (Int32 × Mm)) (fk : Option ((Int32 × (Nat → Nat) × Mm) × Nat × Nat)) (ka kb : Nat) (sh : Sh) (ln : Nat → Nat) (μq μk : Mm) (z d : Nat) (Λo : Option LW) (x2 : Int32) : Prop :=
  (∃ m aq ak ln' kc ks V n N w0 r, m ≤ 14 ∧ fq = some (nI m, aq) ∧ fk = some ((nI m, ln', ak), ka + kc, kb + ks) ∧ GR d ln ln' kc ks ∧ (RS aq V n N w0 r ∧ STR sh ln' ak d V n N w0 r Λo ∧ EX x2 r) ∧ QR μq aq ∧ FrV d μk ak) ∨
  (∃ aq ak ln' kc ks x, fq = some (-nI 1, aq) ∧ fk = some ((-nI 1, ln', ak), ka + kc, kb + ks) ∧ GR d ln ln' kc ks ∧ aq (0, 0) 15 = nI x ∧ ak (6, 0) 7 = nI x ∧ QR μq aq ∧ FrW d μk ak)
section VLA
variable {sh : Sh} {T : Nat → Nat} {z d : Nat} {Λo : Option LW} {x2 : Int32}
theorem VX.gr {ln ln' : Nat → Nat} {μk a : Mm} {kc ks : Nat} (h : VX sh ln μk d) (hG : GR d ln ln' kc ks) (hF : FrV d μk a) : VX sh ln' a d := ⟨by rw [hF.2 12 (by omega)]; exact h.1, h.2.1, h.2.2.1, h.2.2.2.1.gr hG, h.2.2.2.2.1.gr hG, h.2.2.2.2.2.gr hG⟩
theorem v_lines : ∀ j t, t + j = 14 → ∀ (ln : Nat → Nat) (μq μk : Mm) (b V n N w0 : Nat) (r : Nat → Int32), VL sh ln μq μk T z b d V n N w0 r Λo x2 → VX sh ln μk d → ∀ ka kb,
    LO (Wh (fun z : Mm × Int32 => f_X11_readAll_L28 (1 : Int32) z.1 z.2) (μq, nI t)) (Wh (whc (fun z : (Nat → Nat) × Mm × Int32 => f_X8_readLines_0A_L11 sh z.1 (14 : Int32) z.2.1 z.2.2)) ((ln, μk, nI (t + 1)), ka, kb)) ka kb sh ln μq μk z d Λo x2 := by
  intro j
  induction j with
  | zero =>
    intro t ht ln μq μk b V n N w0 r hV hX ka kb
    have ht : t = 14 := ht
    subst ht
    obtain ⟨a, e1, hF, h15, h13, hT2, hW, hy, hn⟩ := t_letters hV.2.1
    have e2 : f_X11_readLine μq (1 : Int32) (nI 14) = some (nI 0, a) := by
      rw [f_X11_readLine, e1, Option.bind_some, if_neg (show ¬ (1 : Int32) = 0 by decide), f_X11_readLine_J16, if_pos (by decide)]
      rfl
    right
    refine ⟨a, mst μk (6, 0) 7 (nI b), ln, 0, 0, b, Wh_end ?_, whc_r ?_, GR.rf, h15, wr7, hF.R, FrV.wr⟩
    · show f_X11_readAll_L28 (1 : Int32) μq (nI 14) = _
      rw [f_X11_readAll_L28, e2]
      rfl
    · show f_X8_readLines_0A_L11 sh ln (14 : Int32) μk (nI (14 + 1)) = _
      rw [f_X8_readLines_0A_L11, if_pos (by decide), hV.2.2.1.beg]
      rfl
  | succ j ih =>
    intro t ht ln μq μk b V n N w0 r hV hX ka kb
    have hl := v_line hV hX (t := t) (by omega)
    have g15 : ¬ (14 : Int32) < nI (t + 1) := by rw [show (14 : Int32) = nI 14 from rfl, q_lt (by omega) (by omega)]; omega
    rcases hl with ⟨aq, ak, ln1, kc, ks, V1, n1, N1, w1, r1, b1, e1, e2, G1, V1', qr1, fv1⟩ | ⟨aq, ak, x, e1, e2, f15, f7, qr1, fv1⟩
    · have hT := V1'.2.1.1.2.2.1
      have X1 := hX.gr G1 fv1
      have hbz := V1'.2.2.1.bz
      have hz4 := V1'.2.1.1.2.1
      obtain ⟨a2, e3, qf2, h15, h13, Q2⟩ := t_blanks V1'.2.1
      have h14 : a2 (0, 0) 14 = nI z := Q2.1.1
      have hKk := V1'.2.2.1.kind
      have hlt := KN_lt (z := z) (hT b1)
      have hR2 := V1'.1.qf qf2
      have q14 : (nI b1 = nI z) = (b1 = z) := q_eq (by omega) (by omega)
      have hq : f_X11_readAll_L28 (1 : Int32) μq (nI t) = (if nI b1 = nI z then some (.inr (nI t + (1 : Int32), a2)) else ((f_X11_isAt a2 (59 : Int32) (59 : Int32)).bind fun x63 => if x63 = 0 then some (.inr ((-1 : Int32), a2)) else (some (.inl ((mst a2 (0, 0) 13 ((a2 (0, 0) 13) + (1 : Int32))), (nI t + (1 : Int32))))))) := by
        rw [f_X11_readAll_L28, e1, Option.bind_some, if_neg (show ¬ (nI 1, aq).1 = 0 by show ¬ nI 1 = 0; decide)]
        show ((f_X11_blanks aq).bind _) = _
        rw [e3, Option.bind_some, h13, h14]
        rfl
      have hk : f_X8_readLines_0A_L11 sh ln (14 : Int32) μk (nI (t + 1)) = addc kc ks (if (ak (6, 0) 8) = 0 then some (.inr (nI (t + 1), ln1, ak), 0, 0) else ((f_X8_take_0 sh ln1 ak (59 : Int32)).bind fun x37 => if x37.1 = 0 then some (.inr ((-1 : Int32), ln1, x37.2), 0, 0) else (some (.inl (ln1, x37.2, (nI (t + 1) + (1 : Int32))), 0, 0)))) := by
        rw [f_X8_readLines_0A_L11, if_neg g15, e2, Option.bind_some]
        rfl
      by_cases c : b1 = z
      · left
        have hk0 : KN T z b1 = 0 := (KN_0 (hT b1)).mpr (by omega)
        refine ⟨t + 1, a2, ak, ln1, kc + 0, ks + 0, V1, n1, N1, w1, r1, by omega, Wh_end ?_, whc_r ?_, G1, ⟨hR2, V1'.2.2.2.1, V1'.2.2.2.2⟩, qr1.tr qf2.R, fv1⟩
        · show f_X11_readAll_L28 (1 : Int32) μq (nI t) = _
          rw [hq, if_pos (q14.mpr c), show (1 : Int32) = nI 1 from rfl, nI_add]
        · show f_X8_readLines_0A_L11 sh ln (14 : Int32) μk (nI (t + 1)) = _
          rw [hk, hKk, hk0, if_pos (show nI 0 = 0 from rfl)]
          rfl
      · have hks := KN_s (z := z) (hT b1) (c := 59) (by decide)
        have hk0 : ¬ KN T z b1 = 0 := fun e => (KN_0 (hT b1)).mp e (by omega)
        have ne0 : ¬ nI (KN T z b1) = 0 := by rw [show (0 : Int32) = nI 0 from rfl, q_eq (by omega) (by omega)]; exact hk0
        have hat := q_isAt Q2.1 h13 hbz (lo := 59) (hi := 59) (by omega)
        have htk := k_take0 (sh := sh) V1'.2.2.1 (v := 59) (by omega)
        by_cases c2 : KN T z b1 = 59
        · have hb2 := hks.mp c2
          rw [decide_eq_true (by omega)] at hat
          obtain ⟨k3, e4, ks3, K3⟩ := htk.1 c2
          obtain ⟨a3, ha3⟩ : ∃ a3, a3 = mst a2 (0, 0) 13 (nI (b1 + 1)) := ⟨_, rfl⟩
          have qf3 : QF a2 a3 := by
            rw [ha3, mst_row]
            exact ⟨fun q hq => mrow_ne hq, fun i g0 g1 => by rw [mrow_self, q_upd, if_neg g0]⟩
          have ee : eot T z b1 = b1 + 1 := eot_sg (by rw [hb2.2]; rfl) (by rw [hb2.2]; rfl)
          have Q3 : QC a3 T z (nx T z b1) := ⟨Q2.1.to qf3, b1 + 1, by omega, by rw [ha3, mst_row, mrow_self, q_upd, if_pos rfl], by unfold nx; rw [ee]⟩
          have V3 : VL sh ln1 a3 k3 T z (nx T z b1) d V1 n1 N1 w1 r1 Λo x2 := ⟨hR2.qf qf3, Q3, K3, V1'.2.2.2.1.kf ks3.F, V1'.2.2.2.2⟩
          have X3 := X1.fr (ks3.F.V (d := d))
          have hI := ih (t + 1) (by omega) ln1 a3 k3 (nx T z b1) V1 n1 N1 w1 r1 V3 X3 (ka + (kc + 0)) (kb + (ks + 0))
          have hqs : ∀ R, Wh (fun z : Mm × Int32 => f_X11_readAll_L28 (1 : Int32) z.1 z.2) (a3, nI (t + 1)) = some R → Wh (fun z : Mm × Int32 => f_X11_readAll_L28 (1 : Int32) z.1 z.2) (μq, nI t) = some R := fun R hR => by
            refine Wh_step (s' := (a3, nI (t + 1))) ?_ hR
            show f_X11_readAll_L28 (1 : Int32) μq (nI t) = _
            rw [hq, if_neg (fun x => c (q14.mp x)), show (59 : Int32) = nI 59 from rfl, hat, Option.bind_some, if_neg (show ¬ bI true = 0 by decide), h13, show (1 : Int32) = nI 1 from rfl, nI_add, nI_add, ← ha3]
          have hks' : ∀ R, Wh (whc (fun z : (Nat → Nat) × Mm × Int32 => f_X8_readLines_0A_L11 sh z.1 (14 : Int32) z.2.1 z.2.2)) ((ln1, k3, nI (t + 1 + 1)), ka + (kc + 0), kb + (ks + 0)) = some R → Wh (whc (fun z : (Nat → Nat) × Mm × Int32 => f_X8_readLines_0A_L11 sh z.1 (14 : Int32) z.2.1 z.2.2)) ((ln, μk, nI (t + 1)), ka, kb) = some R := fun R hR => by
            refine whc_l (c := kc + 0) (e := ks + 0) ?_ hR
            show f_X8_readLines_0A_L11 sh ln (14 : Int32) μk (nI (t + 1)) = _
            rw [hk, hKk, if_neg ne0, show (59 : Int32) = nI 59 from rfl, e4, Option.bind_some, if_neg (show ¬ (nI 1, k3).1 = 0 by show ¬ nI 1 = 0; decide), show (1 : Int32) = nI 1 from rfl, nI_add]
            rfl
          rcases hI with ⟨m, aq4, ak4, ln4, kc4, ks4, V4, n4, N4, w4, r4, hm, f1, f2, G4, h4, qr4, fv4⟩ | ⟨aq4, ak4, ln4, kc4, ks4, x, f1, f2, G4, f15, f7, qr4, fv4⟩
          · refine Or.inl ⟨m, aq4, ak4, ln4, (kc + 0) + kc4, (ks + 0) + ks4, V4, n4, N4, w4, r4, hm, hqs _ f1, ?_, G1.tr G4, h4, ((qr1.tr qf2.R).tr qf3.R).tr qr4, (fv1.tr ks3.F.V).tr fv4⟩
            rw [← Nat.add_assoc ka (kc + 0) kc4, ← Nat.add_assoc kb (ks + 0) ks4]
            exact hks' _ f2
          · refine Or.inr ⟨aq4, ak4, ln4, (kc + 0) + kc4, (ks + 0) + ks4, x, hqs _ f1, ?_, G1.tr G4, f15, f7, ((qr1.tr qf2.R).tr qf3.R).tr qr4, (fv1.tr ks3.F.V).tw fv4⟩
            rw [← Nat.add_assoc ka (kc + 0) kc4, ← Nat.add_assoc kb (ks + 0) ks4]
            exact hks' _ f2
        · right
          have hnb : ¬ (b1 < z ∧ T b1 = 59) := fun x => c2 (hks.mpr x)
          rw [decide_eq_false (by omega)] at hat
          refine ⟨a2, mst ak (6, 0) 7 (nI b1), ln1, kc + 0, ks + 0, b1, Wh_end ?_, whc_r ?_, G1, h15, wr7, qr1.tr qf2.R, fv1.tw FrV.wr⟩
          · show f_X11_readAll_L28 (1 : Int32) μq (nI t) = _
            rw [hq, if_neg (fun x => c (q14.mp x)), show (59 : Int32) = nI 59 from rfl, hat, Option.bind_some, if_pos (show bI false = 0 from rfl)]
            rfl
          · show f_X8_readLines_0A_L11 sh ln (14 : Int32) μk (nI (t + 1)) = _
            rw [hk, hKk, if_neg ne0, show (59 : Int32) = nI 59 from rfl, htk.2 c2]
            rfl
    · right
      refine ⟨aq, ak, ln, 0, 0, x, Wh_end ?_, whc_r ?_, GR.rf, f15, f7, qr1, fv1⟩
      · show f_X11_readAll_L28 (1 : Int32) μq (nI t) = _
        rw [f_X11_readAll_L28, e1]
        rfl
      · show f_X8_readLines_0A_L11 sh ln (14 : Int32) μk (nI (t + 1)) = _
        rw [f_X8_readLines_0A_L11, if_neg g15, e2]
        rfl
/-- both read the text, from the tape used up -/
theorem v_all {ln : Nat → Nat} {μq μk : Mm} {V n N w0 : Nat} {r : Nat → Int32} (hR : RS μq V n N w0 r) (h12 : μq (0, 0) 12 = nI z) (hz : z ≤ 400) (hT : ∀ i, T i < 256) (h11 : ∀ i, i < 400 → μq (11, 0) i = sgn (T i))
    (hK : KC 0 ln μk T z (nb T z 0)) (hS : STR sh ln μk d V n N w0 r Λo) (hE : EX x2 r) (hX : VX sh ln μk d) :
    ∃ μ1, (∀ q : Ky, q ≠ (0, 0) → μ1 q = μq q) ∧ (μ1 (0, 0) 0 = nI 0 ∧ μ1 (0, 0) 12 = nI 0 ∧ ∀ i, i ≠ 0 → i ≠ 12 → i ≠ 13 → i ≠ 14 → i ≠ 15 → i ≠ 21 → μ1 (0, 0) i = μq (0, 0) i) ∧ LO (f_X11_readAll μq (1 : Int32)) (f_X8_readLines_0A sh ln μk (14 : Int32)) 0 0 sh ln μ1 μk z d Λo x2 := by
  obtain ⟨μ0, hμ0⟩ : ∃ μ0, μ0 = mst (mst (mst (mst (mst μq (0, 0) 0 (0 : Int32)) (0, 0) 14 ((mst μq (0, 0) 0 (0 : Int32)) (0, 0) 12)) (0, 0) 12 (0 : Int32)) (0, 0) 13 (0 : Int32)) (0, 0) 21 (0 : Int32) := ⟨_, rfl⟩
  have hrow : μ0 = mrow μq (0, 0) (upd (upd (upd (upd (upd (μq (0, 0)) 0 (nI 0)) 14 (nI z)) 12 (nI 0)) 13 (nI 0)) 21 (nI 0)) := by
    have e12 : mst μq (0, 0) 0 (0 : Int32) (0, 0) 12 = nI z := by rw [mst_row, mrow_self, q_upd, if_neg (by omega)]; exact h12
    rw [hμ0, e12, mst_row, mst_row, mst_row, mst_row, mst_row, mrow_mrow, mrow_mrow, mrow_mrow, mrow_mrow, mrow_self, mrow_self, mrow_self, mrow_self]
    rfl
  have k0 : ∀ q : Ky, q ≠ (0, 0) → μ0 q = μq q := fun q hq => by rw [hrow, mrow_ne hq]
  have p0 : ∀ i, μ0 (0, 0) i = if i = 21 then nI 0 else if i = 13 then nI 0 else if i = 12 then nI 0 else if i = 14 then nI z else if i = 0 then nI 0 else μq (0, 0) i := fun i => by rw [hrow, mrow_self, q_upd, q_upd, q_upd, q_upd, q_upd]
  have T0 : TQ μ0 T z := ⟨by rw [p0]; rfl, hz, hT, fun i hi => by rw [k0 (11, 0) (by simp)]; exact h11 i hi⟩
  have Q0 : QC μ0 T z (nb T z 0) := ⟨T0, 0, by omega, by rw [p0]; rfl, rfl⟩
  obtain ⟨a1, e1, qf1, h15, h13, Q1⟩ := t_blanks Q0
  have h14 : a1 (0, 0) 14 = nI z := Q1.1.1
  have hbz := hK.bz
  have q14 : (nI (nb T z 0) = nI z) = (nb T z 0 = z) := q_eq (by omega) (by omega)
  have hrd : f_X11_readAll μq (1 : Int32) = (if nI (nb T z 0) = nI z then some ((0 : Int32), a1) else (Wh (fun z : Mm × Int32 => f_X11_readAll_L28 (1 : Int32) z.1 z.2) (a1, (0 : Int32)))) := by
    rw [f_X11_readAll, f_X11_uses, Option.bind_some]
    show ((f_X11_blanks (mst (mst (mst (mst (mst μq (0, 0) 0 (0 : Int32)) (0, 0) 14 ((mst μq (0, 0) 0 (0 : Int32)) (0, 0) 12)) (0, 0) 12 (0 : Int32)) (0, 0) 13 (0 : Int32)) (0, 0) 21 (0 : Int32))).bind _) = _
    rw [← hμ0, e1, Option.bind_some, h13, h14]
  have hlt := KN_lt (z := z) (hT (nb T z 0))
  have R1 : RS a1 V n N w0 r := by
    have : RS μ0 V n N w0 r := ⟨by rw [k0 (1, 0) (by simp)]; exact hR.1, hR.2⟩
    exact this.qf qf1
  refine ⟨a1, fun q hq => by rw [qf1.1 q hq, k0 q hq], ⟨by rw [qf1.2 0 (by omega) (by omega), p0]; rfl, by rw [qf1.2 12 (by omega) (by omega), p0]; rfl, fun i g0 g12 g13 g14 g15 g21 => by rw [qf1.2 i g13 g15, p0, if_neg g21, if_neg g13, if_neg g12, if_neg g14, if_neg g0]⟩, ?_⟩
  rw [hrd]
  by_cases c : nb T z 0 = z
  · have hk0 : KN T z (nb T z 0) = 0 := (KN_0 (hT _)).mpr (by omega)
    rw [if_pos (q14.mpr c), f_X8_readLines_0A, hK.kind, hk0, if_pos (show nI 0 = 0 from rfl)]
    exact Or.inl ⟨0, a1, μk, ln, 0, 0, V, n, N, w0, r, by omega, rfl, rfl, GR.rf, ⟨R1, hS, hE⟩, QR.rf, FrV.rf⟩
  · have hk0 : ¬ KN T z (nb T z 0) = 0 := fun e => (KN_0 (hT _)).mp e (by omega)
    rw [if_neg (fun x => c (q14.mp x)), f_X8_readLines_0A, hK.kind, if_neg (by rw [show (0 : Int32) = nI 0 from rfl, q_eq (by omega) (by omega)]; exact hk0)]
    exact v_lines 14 0 rfl ln a1 μk (nb T z 0) V n N w0 r ⟨R1, Q1, hK, hS, hE⟩ hX 0 0
end VLA
