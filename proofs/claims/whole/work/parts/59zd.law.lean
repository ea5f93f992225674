-- the law's text: all lines
/-- all lines are right, or both tell the same place -/
def LNO (fq fk : Option (Int32 × Mm)) (ln : Nat → Nat) (μq μk : Mm) (T : Nat → Nat) (z : Nat) : Prop :=
  (∃ m aq ak b s S M A F B, fq = some (nI m, aq) ∧ fk = some (nI m, ak) ∧ LT ln aq ak T z b m s S M A F B ∧ QW μq aq ∧ FV μk ak) ∨
  (∃ aq ak x, fq = some (-nI 1, aq) ∧ fk = some (-nI 1, ak) ∧ aq (0, 0) 15 = nI x ∧ ak (6, 1) 7 = nI x ∧ QW μq aq ∧ FW μk ak)
section LWA
variable {sh : Sh} {ln : Nat → Nat} {T : Nat → Nat} {z : Nat}
theorem LNO.pre {fq fk : Option (Int32 × Mm)} {μq μk aq ak : Mm} (h : LNO fq fk ln aq ak T z) (hq : QW μq aq) (hk : FV μk ak) : LNO fq fk ln μq μk T z := by
  rcases h with ⟨m, x1, x2, b, s, S, M, A, F, B, e1, e2, g1, g2, g3⟩ | ⟨x1, x2, x, e1, e2, g1, g2, g3, g4⟩
  · exact Or.inl ⟨m, x1, x2, b, s, S, M, A, F, B, e1, e2, g1, hq.tr g2, hk.tr g3⟩
  · exact Or.inr ⟨x1, x2, x, e1, e2, g1, g2, hq.tr g3, hk.tw g4⟩
theorem LNO.sub {fq fk fq' fk' : Option (Int32 × Mm)} {μq μk : Mm} (h : LNO fq fk ln μq μk T z) (h1 : ∀ R, fq = some R → fq' = some R) (h2 : ∀ R, fk = some R → fk' = some R) : LNO fq' fk' ln μq μk T z := by
  rcases h with ⟨m, x1, x2, b, s, S, M, A, F, B, e1, e2, g⟩ | ⟨x1, x2, x, e1, e2, g⟩
  · exact Or.inl ⟨m, x1, x2, b, s, S, M, A, F, B, h1 _ e1, h2 _ e2, g⟩
  · exact Or.inr ⟨x1, x2, x, h1 _ e1, h2 _ e2, g⟩
theorem LT.qf {μq μk a k : Mm} {b n s : Nat} {S M A F B : Nat → Nat} (h : LT ln μq μk T z b n s S M A F B) (hF : QF μq a) (hQ : QC a T z b) : LT ln a μk T z b n s S M A F B := by
  obtain ⟨g1, g2, g3, g4, g5, g6, g7⟩ := h
  exact ⟨hQ, g2, g3.qw (hF.2 _ (by omega) (by omega)) (fun i _ => by rw [hF.k (by omega)]), g4, g5.al g7.2.2.1 (fun i _ _ => by rw [hF.k (by omega)]), g6, g7⟩
theorem LPk.mono {n s b b' : Nat} {S M A F B : Nat → Nat} (h : LPk n s S M A F B b) (h1 : b ≤ b') (h2 : b' ≤ 400) : LPk n s S M A F B b' := ⟨by have := h.1; omega, h2, h.2.2⟩
theorem v_lawlines : ∀ j t, t + j = 12 → ∀ (μq μk : Mm) (b s : Nat) (S M A F B : Nat → Nat), LT ln μq μk T z b t s S M A F B →
    LNO (Wh (fun z : Mm × Int32 => f_X11_readAll_L28 (0 : Int32) z.1 z.2) (μq, nI t)) (Wh (fun z : Mm × Int32 => f_X8_readLines_1_L11 sh ln (12 : Int32) z.1 z.2) (μk, nI (t + 1))) ln μq μk T z := by
  intro j
  induction j with
  | zero =>
    intro t ht μq μk b s S M A F B h
    have ht : t = 12 := ht
    subst ht
    obtain ⟨a, e1, hF, h15, h13, hT2, hW, hy, hn⟩ := t_letters h.1
    have e2 : f_X11_readLine μq (0 : Int32) (nI 12) = some (nI 0, a) := by
      rw [f_X11_readLine, e1, Option.bind_some, if_pos rfl, f_X11_readLine_J16, if_pos (by decide)]
      rfl
    right
    refine ⟨a, mst μk (6, 1) 7 (nI b), b, Wh_end ?_, Wh_end ?_, h15, wr71, hF.L.W, FW.wr⟩
    · show f_X11_readAll_L28 (0 : Int32) μq (nI 12) = _
      rw [f_X11_readAll_L28, e2]
      rfl
    · show f_X8_readLines_1_L11 sh ln (12 : Int32) μk (nI (12 + 1)) = _
      rw [f_X8_readLines_1_L11, if_pos (by decide), h.2.1.beg]
      rfl
  | succ j ih =>
    intro t ht μq μk b s S M A F B h
    have g13 : ¬ (12 : Int32) < nI (t + 1) := by rw [show (12 : Int32) = nI 12 from rfl, q_lt (by omega) (by omega)]; omega
    obtain ⟨a0, e0, hF0, h015, h013, hT0, hW0, hy0, hn0⟩ := t_letters h.1
    have hrl : f_X11_readLine μq (0 : Int32) (nI t) = ((f_X11_readLawLine a0 (nI t)).bind fun x35 => if x35.1 = 0 then some ((0 : Int32), x35.2) else (some ((1 : Int32), x35.2))) := by
      rw [f_X11_readLine, e0, Option.bind_some, if_pos rfl, f_X11_readLine_J16, if_neg (by rw [show (12 : Int32) = nI 12 from rfl, q_le (by omega) (by omega)]; omega), if_pos rfl]
    rcases v_lawline (sh := sh) h (by omega) hF0 h015 (hW0 13 (by omega) (by omega)) hy0 with ⟨aq, ak, b1, s1, S1, M1, A1, F1, B1, e1, e2, hb1, L1, qw1, fv1⟩ | ⟨aq, ak, x, e1, e2, f15, f7, qw1, fv1⟩
    · have hT := L1.1.1.2.2.1
      have hbz := L1.2.1.bz
      have hz4 := L1.1.1.2.1
      obtain ⟨a2, e3, qf2, h15, h13, Q2⟩ := t_blanks L1.1
      have h14 : a2 (0, 0) 14 = nI z := Q2.1.1
      have hKk := L1.2.1.kind
      have hlt := KN_lt (z := z) (hT b1)
      have L2 := L1.qf qf2 (k := ak) Q2
      have q14 : (nI b1 = nI z) = (b1 = z) := q_eq (by omega) (by omega)
      have hq : f_X11_readAll_L28 (0 : Int32) μq (nI t) = (if nI b1 = nI z then some (.inr (nI t + (1 : Int32), a2)) else ((f_X11_isAt a2 (59 : Int32) (59 : Int32)).bind fun x63 => if x63 = 0 then some (.inr ((-1 : Int32), a2)) else (some (.inl ((mst a2 (0, 0) 13 ((a2 (0, 0) 13) + (1 : Int32))), (nI t + (1 : Int32))))))) := by
        rw [f_X11_readAll_L28, hrl, e1, Option.bind_some, if_neg (show ¬ (nI 1, aq).1 = 0 by show ¬ nI 1 = 0; decide), Option.bind_some, if_neg (show ¬ ((1 : Int32), (nI 1, aq).2).1 = 0 by show ¬ (1 : Int32) = 0; decide)]
        show ((f_X11_blanks aq).bind _) = _
        rw [e3, Option.bind_some, h13, h14]
        rfl
      have hk : f_X8_readLines_1_L11 sh ln (12 : Int32) μk (nI (t + 1)) = (if (ak (6, 1) 8) = 0 then some (.inr (nI (t + 1), ak)) else ((f_X8_take_1 sh ln ak (59 : Int32)).bind fun x37 => if x37.1 = 0 then some (.inr ((-1 : Int32), x37.2)) else (some (.inl (x37.2, (nI (t + 1) + (1 : Int32))))))) := by
        rw [f_X8_readLines_1_L11, if_neg g13, e2, Option.bind_some]
        rfl
      by_cases c : b1 = z
      · left
        have hk0 : KN T z b1 = 0 := (KN_0 (hT b1)).mpr (by omega)
        refine ⟨t + 1, a2, ak, b1, s1, S1, M1, A1, F1, B1, Wh_end ?_, Wh_end ?_, L2, qw1.tr qf2.L.W, fv1⟩
        · show f_X11_readAll_L28 (0 : Int32) μq (nI t) = _
          rw [hq, if_pos (q14.mpr c), show (1 : Int32) = nI 1 from rfl, nI_add]
        · show f_X8_readLines_1_L11 sh ln (12 : Int32) μk (nI (t + 1)) = _
          rw [hk, hKk, hk0, if_pos (show nI 0 = 0 from rfl)]
      · have hks := KN_s (z := z) (hT b1) (c := 59) (by decide)
        have hk0 : ¬ KN T z b1 = 0 := fun e => (KN_0 (hT b1)).mp e (by omega)
        have ne0 : ¬ nI (KN T z b1) = 0 := by rw [show (0 : Int32) = nI 0 from rfl, q_eq (by omega) (by omega)]; exact hk0
        have hat := q_isAt Q2.1 h13 hbz (lo := 59) (hi := 59) (by omega)
        have htk := k_take1 (sh := sh) L1.2.1 (v := 59) (by omega)
        by_cases c2 : KN T z b1 = 59
        · have hb2 := hks.mp c2
          rw [decide_eq_true (by omega)] at hat
          obtain ⟨k3, e4, ks3, K3⟩ := htk.1 c2
          obtain ⟨a3, ha3⟩ : ∃ a3, a3 = mst a2 (0, 0) 13 (nI (b1 + 1)) := ⟨_, rfl⟩
          have qf3 : QF a2 a3 := by
            rw [ha3, mst_row]
            exact ⟨fun q hq => mrow_ne hq, fun i g0 g1 => by rw [mrow_self, q_upd, if_neg g0]⟩
          have ee : eot T z b1 = b1 + 1 := eot_sg (by rw [hb2.2]; rfl) (by rw [hb2.2]; rfl)
          have hnx := nx_ok (T := T) hb2.1
          have Q3 : QC a3 T z (nx T z b1) := ⟨Q2.1.to qf3, b1 + 1, by omega, by rw [ha3, mst_row, mrow_self, q_upd, if_pos rfl], by unfold nx; rw [ee]⟩
          have L3 : LT ln a3 k3 T z (nx T z b1) (t + 1) s1 S1 M1 A1 F1 B1 := by
            obtain ⟨g1, g2, g3, g4, g5, g6, g7⟩ := L2
            refine ⟨Q3, K3, g3.qw (qf3.2 _ (by omega) (by omega)) (fun i _ => by rw [qf3.k (by omega)]), by rw [ks3.2 12 (by omega) (by omega) (by omega) (by omega)]; exact g4, g5.al g7.2.2.1 (fun i _ _ => by rw [qf3.k (by omega)]), ?_, g7.mono (by omega) (by omega)⟩
            intro i hi
            rw [ks3.1 (10, 0) (by simp)]
            exact g6 i hi
          have hI := ih (t + 1) (by omega) a3 k3 (nx T z b1) s1 S1 M1 A1 F1 B1 L3
          refine (hI.pre ((qw1.tr qf2.L.W).tr qf3.L.W) (fv1.tr ks3.V)).sub (fun R hR => Wh_step (s' := (a3, nI (t + 1))) ?_ hR) (fun R hR => Wh_step (s' := (k3, nI (t + 1 + 1))) ?_ hR)
          · show f_X11_readAll_L28 (0 : Int32) μq (nI t) = _
            rw [hq, if_neg (fun x => c (q14.mp x)), show (59 : Int32) = nI 59 from rfl, hat, Option.bind_some, if_neg (show ¬ bI true = 0 by decide), h13, show (1 : Int32) = nI 1 from rfl, nI_add, nI_add, ← ha3]
          · show f_X8_readLines_1_L11 sh ln (12 : Int32) μk (nI (t + 1)) = _
            rw [hk, hKk, if_neg ne0, show (59 : Int32) = nI 59 from rfl, e4, Option.bind_some, if_neg (show ¬ (nI 1, k3).1 = 0 by show ¬ nI 1 = 0; decide), show (1 : Int32) = nI 1 from rfl, nI_add]
        · right
          have hnb : ¬ (b1 < z ∧ T b1 = 59) := fun x => c2 (hks.mpr x)
          rw [decide_eq_false (by omega)] at hat
          refine ⟨a2, mst ak (6, 1) 7 (nI b1), b1, Wh_end ?_, Wh_end ?_, h15, wr71, qw1.tr qf2.L.W, fv1.tw FW.wr⟩
          · show f_X11_readAll_L28 (0 : Int32) μq (nI t) = _
            rw [hq, if_neg (fun x => c (q14.mp x)), show (59 : Int32) = nI 59 from rfl, hat, Option.bind_some, if_pos (show bI false = 0 from rfl)]
            rfl
          · show f_X8_readLines_1_L11 sh ln (12 : Int32) μk (nI (t + 1)) = _
            rw [hk, hKk, if_neg ne0, show (59 : Int32) = nI 59 from rfl, htk.2 c2]
            rfl
    · right
      refine ⟨aq, ak, x, Wh_end ?_, Wh_end ?_, f15, f7, qw1, fv1⟩
      · show f_X11_readAll_L28 (0 : Int32) μq (nI t) = _
        rw [f_X11_readAll_L28, hrl, e1]
        rfl
      · show f_X8_readLines_1_L11 sh ln (12 : Int32) μk (nI (t + 1)) = _
        rw [f_X8_readLines_1_L11, if_neg g13, e2]
        rfl
/-- both read the text, from the tape used up -/
theorem v_lawall {μq μk : Mm} (h12 : μq (0, 0) 12 = nI z) (hz : z ≤ 400) (hT : ∀ i, T i < 256) (h11 : ∀ i, i < 400 → μq (11, 0) i = sgn (T i)) (hK : KC 1 ln μk T z (nb T z 0)) (hk12 : μk (6, 1) 12 = nI 0) :
    ∃ μ1, (∀ q : Ky, q ≠ (0, 0) → μ1 q = μq q) ∧ (μ1 (0, 0) 0 = nI 0 ∧ μ1 (0, 0) 12 = nI 0 ∧ ∀ i, i ≠ 0 → i ≠ 12 → i ≠ 13 → i ≠ 14 → i ≠ 15 → i ≠ 21 → μ1 (0, 0) i = μq (0, 0) i) ∧ LNO (f_X11_readAll μq (0 : Int32)) (f_X8_readLines_1 sh ln μk (12 : Int32)) ln μ1 μk T z := by
  obtain ⟨μ0, hμ0⟩ : ∃ μ0, μ0 = mst (mst (mst (mst (mst μq (0, 0) 0 (0 : Int32)) (0, 0) 14 ((mst μq (0, 0) 0 (0 : Int32)) (0, 0) 12)) (0, 0) 12 (0 : Int32)) (0, 0) 13 (0 : Int32)) (0, 0) 21 (0 : Int32) := ⟨_, rfl⟩
  have hrow : μ0 = mrow μq (0, 0) (upd (upd (upd (upd (upd (μq (0, 0)) 0 (nI 0)) 14 (nI z)) 12 (nI 0)) 13 (nI 0)) 21 (nI 0)) := by
    have e12 : mst μq (0, 0) 0 (0 : Int32) (0, 0) 12 = nI z := by rw [mst_row, mrow_self, q_upd, if_neg (by omega)]; exact h12
    rw [hμ0, e12, mst_row, mst_row, mst_row, mst_row, mst_row, mrow_mrow, mrow_mrow, mrow_mrow, mrow_mrow, mrow_self, mrow_self, mrow_self, mrow_self]
    rfl
  have k0 : ∀ q : Ky, q ≠ (0, 0) → μ0 q = μq q := fun q hq => by rw [hrow, mrow_ne hq]
  have p0 : ∀ i, μ0 (0, 0) i = if i = 21 then nI 0 else if i = 13 then nI 0 else if i = 12 then nI 0 else if i = 14 then nI z else if i = 0 then nI 0 else μq (0, 0) i := fun i => by rw [hrow, mrow_self, q_upd, q_upd, q_upd, q_upd, q_upd]
  have T0 : TQ μ0 T z := ⟨by rw [p0]; rfl, hz, hT, fun i hi => by rw [k0 (11, 0) (by simp)]; exact h11 i hi⟩
  have Q0 : QC μ0 T z (nb T z 0) := ⟨T0, 0, by omega, by rw [p0]; rfl, rfl⟩
  obtain ⟨a1, e1, qf1, h15, h13, Q1⟩ := t_blanks Q0
  have h14 : a1 (0, 0) 14 = nI z := Q1.1.1
  have hbz := hK.bz
  have q14 : (nI (nb T z 0) = nI z) = (nb T z 0 = z) := q_eq (by omega) (by omega)
  have hrd : f_X11_readAll μq (0 : Int32) = (if nI (nb T z 0) = nI z then some ((0 : Int32), a1) else (Wh (fun z : Mm × Int32 => f_X11_readAll_L28 (0 : Int32) z.1 z.2) (a1, (0 : Int32)))) := by
    rw [f_X11_readAll, f_X11_uses, Option.bind_some]
    show ((f_X11_blanks (mst (mst (mst (mst (mst μq (0, 0) 0 (0 : Int32)) (0, 0) 14 ((mst μq (0, 0) 0 (0 : Int32)) (0, 0) 12)) (0, 0) 12 (0 : Int32)) (0, 0) 13 (0 : Int32)) (0, 0) 21 (0 : Int32))).bind _) = _
    rw [← hμ0, e1, Option.bind_some, h13, h14]
  have hlt := KN_lt (z := z) (hT (nb T z 0))
  have e21 : a1 (0, 0) 21 = nI 0 := by rw [qf1.2 21 (by omega) (by omega), p0]; rfl
  have L0 : LT ln a1 μk T z (nb T z 0) 0 0 (fun _ => 0) (fun _ => 0) (fun _ => 0) (fun _ => 0) (fun _ => 0) := ⟨Q1, hK, ⟨e21, fun i hi => by omega⟩, hk12, fun i hi => by omega, fun i hi => by omega, by omega, by omega, by omega, rfl, rfl, rfl, Nat.le_refl 0, fun i hi => ⟨Nat.le_refl 0, Nat.le_refl 0⟩, fun i hi => by omega, fun i hi => by omega, fun i hi => by omega⟩
  refine ⟨a1, fun q hq => by rw [qf1.1 q hq, k0 q hq], ⟨by rw [qf1.2 0 (by omega) (by omega), p0]; rfl, by rw [qf1.2 12 (by omega) (by omega), p0]; rfl, fun i g0 g12 g13 g14 g15 g21 => by rw [qf1.2 i g13 g15, p0, if_neg g21, if_neg g13, if_neg g12, if_neg g14, if_neg g0]⟩, ?_⟩
  rw [hrd]
  by_cases c : nb T z 0 = z
  · have hk0 : KN T z (nb T z 0) = 0 := (KN_0 (hT _)).mpr (by omega)
    rw [if_pos (q14.mpr c), f_X8_readLines_1, hK.kind, hk0, if_pos (show nI 0 = 0 from rfl)]
    exact Or.inl ⟨0, a1, μk, nb T z 0, 0, _, _, _, _, _, rfl, rfl, L0, QW.rf, FV.rf⟩
  · have hk0 : ¬ KN T z (nb T z 0) = 0 := fun e => (KN_0 (hT _)).mp e (by omega)
    rw [if_neg (fun x => c (q14.mp x)), f_X8_readLines_1, hK.kind, if_neg (by rw [show (0 : Int32) = nI 0 from rfl, q_eq (by omega) (by omega)]; exact hk0)]
    exact v_lawlines 12 0 rfl a1 μk (nb T z 0) 0 _ _ _ _ _ L0
end LWA
