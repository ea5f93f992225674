-- the law's text: conditions
/-- what a reader of conditions does on both sides -/
def AP (fA : Mm → Option (Int32 × Mm)) (gA : Mm → Int32 → Option (Int32 × Mm)) (ln : Nat → Nat) (T : Nat → Nat) (z f cb dp req : Nat) : Prop :=
  ∀ (μq μk : Mm) (b s : Nat) (S M : Nat → Nat) (l : List Bool), LV ln μq μk T z b f cb s S M l dp → l.length + req ≤ 40 → LVO (fA μq) (gA μk (nI dp)) ln μq μk T z b f cb s S M (true :: l) dp
def cbX (x : Int32 × Mm) : Option (Int32 × Mm) := cb x.1 (some (x.1, x.2))
section ATM
variable {sh : Sh} {ln : Nat → Nat} {μ μq μk aq ak : Mm} {T : Nat → Nat} {z b b1 f cb s s1 dp req : Nat} {S M S1 M1 : Nat → Nat} {l l' : List Bool}
theorem EQ.at16 (h : EQ μ s S M dp) (dp' : Nat) : EQ (mst μ (0, 0) 16 (nI dp')) s S M dp' := by
  obtain ⟨g1, g2, g3⟩ := h
  refine ⟨by rw [mst_row, mrow_self, q_upd, if_neg (by omega)]; exact g1, by rw [mst_row, mrow_self, q_upd, if_pos rfl], fun i hi => ?_⟩
  rw [mst_row, mrow_neA (by omega)]
  exact g3 i hi
theorem QL.at16 {v : Int32} : QL μ (mst μ (0, 0) 16 v) := by
  rw [mst_row]
  exact ⟨fun q g0 _ => mrow_ne g0, fun i _ _ h16 _ => by rw [mrow_self, q_upd, if_neg h16], fun i _ => by rw [mrow_neA (by omega)]⟩
theorem LV.b4 (h : LV ln μq μk T z b f cb s S M l dp) : s + 1 ≤ b ∧ b ≤ 400 ∧ f ≤ s ∧ cb ≤ f + 36 := ⟨h.2.2.2.2.1, h.2.2.2.2.2.1, h.2.2.2.2.2.2.1, h.2.2.2.2.2.2.2.1⟩
/-- a step is noted on both sides -/
theorem v_em (hQ : QC aq T z b) (hK : KC 1 ln ak T z b) (hE : EQ aq s S M dp) (hEk : EK ak f cb s S M) (hP : PU f cb s S M l b1) {x : Nat} {v w : Int32} (hv : v = nI x) (hw : w = nI (cs x 0)) (hx : x ≤ 12) (h6 : x ≠ 6) (ht : tyN x l = some l') (hl : l'.length ≤ 40) (hb : s + 2 ≤ b) (hb4 : b ≤ 400) :
    ∃ a k, f_X11_emits aq v (0 : Int32) = some a ∧ f_X3_add sh ln ak w = some (nI 1, k) ∧ LV ln a k T z b f cb (s + 1) (updN S s x) (updN M s 0) l' dp ∧ QL aq a ∧ FL cb ak k := by
  have hfs : f ≤ s := hP.2.2.1
  have hcf : cb ≤ f + 36 := hP.2.2.2.1
  obtain ⟨a, e1, E1, Q1, l1, _⟩ := q_emits hE (by omega) hQ x 0 v (0 : Int32) hv (fun h => absurd h h6)
  obtain ⟨k, e2, E2, K2, F2⟩ := k_add (sh := sh) hEk hfs (by omega) hK x 0 w hw
  exact ⟨a, k, e1, e2, ⟨Q1, K2, E1, E2, hP.emit hx (by omega) ht hl hb hb4⟩, l1, F2⟩
/-- atoms one behind another -/
theorem v_allL {fA : Mm → Option (Int32 × Mm)} {gA : Mm → Int32 → Option (Int32 × Mm)} (hA : AP fA gA ln T z f cb dp req) {μq0 μk0 : Mm} {b0 s0 : Nat} {S0 M0 : Nat → Nat} (l : List Bool) (hl : l.length + (req + 1) ≤ 40) (h3 : 3 ≤ req) : ∀ j i (μq μk : Mm) (b s : Nat) (S M : Nat → Nat), z - b = j → LV ln μq μk T z b f cb s S M (true :: l) dp → i ≤ s →
    b0 < b → s0 ≤ s ∧ s + b0 ≤ b + s0 → (∀ i, i < s0 → S i = S0 i ∧ M i = M0 i) → QL μq0 μq → FL cb μk0 μk →
    LVO (Wh (fun z : Mm => f_X11_readAllOf_L9 fA z) μq) (Wh (fun z : Mm × Int32 => f_X3_readAll_L12 sh ln gA (nI dp) z.1 z.2) (μk, nI i)) ln μq0 μk0 T z b0 f cb s0 S0 M0 (true :: l) dp := by
  intro j
  induction j using Nat.strongRecOn with
  | _ j ih =>
  intro i μq μk b s S M hj h his hb0 hs0 hS0 hq0 hk0
  have h4 := h.b4
  have hT := h.1.1.2.2.1
  have hlt := KN_lt (z := z) (hT b)
  have g400 : ¬ (400 : Int32) ≤ nI i := by rw [show (400 : Int32) = nI 400 from rfl, q_le (by omega) (by omega)]; omega
  have qe : (nI (KN T z b) = (312 : Int32)) = (KN T z b = 312) := q_eq (b := 312) (by omega) (by omega)
  obtain ⟨a1, e1, qf1, q15, Q1⟩ := t_passes h.1 (w := 16) (by omega)
  by_cases c : KN T z b = 312
  · rw [decide_eq_true c] at e1
    rw [if_pos c] at Q1
    have hbz := h.2.1.gt (by omega) c
    have hnx := nx_ok (T := T) hbz
    have hz4 := h.1.1.2.1
    obtain ⟨k1, e2, ks1, K1⟩ := k_step1 (sh := sh) h.2.1 hbz
    have L1 : LV ln a1 k1 T z (nx T z b) f cb s S M (true :: l) dp := ⟨Q1, K1, h.2.2.1.qf qf1, h.2.2.2.1.ks ks1, h.2.2.2.2.mono (by omega) (by omega)⟩
    rcases hA a1 k1 (nx T z b) s S M (true :: l) L1 (by rw [List.length_cons]; omega) with ⟨a2, k2, b2, s2, S2, M2, e3, e4, hb2, L2, hs2, hS2, q2, f2⟩ | ⟨a2, k2, x, e3, e4, g15, g7, q2, f2⟩
    · have h42 := L2.b4
      obtain ⟨a3, k3, e5, e6, L3, q3, f3⟩ := v_em (sh := sh) L2.1 L2.2.1 L2.2.2.1 L2.2.2.2.1 L2.2.2.2.2 (x := 11) (v := (11 : Int32)) (w := (2004 : Int32)) (l' := true :: l) rfl rfl (by omega) (by omega) rfl (by rw [List.length_cons]; omega) (by omega) h42.2.1
      have hI := ih (z - b2) (by have := L2.2.1.bz; omega) (i + 1) a3 k3 b2 (s2 + 1) _ _ rfl L3 (by omega) (by omega) (by omega) (fun i hi => ⟨(updN_lt (show i < s2 by omega)).trans ((hS2 i (by omega)).1.trans (hS0 i hi).1), (updN_lt (show i < s2 by omega)).trans ((hS2 i (by omega)).2.trans (hS0 i hi).2)⟩) (((hq0.tr qf1.L).tr q2).tr q3) (((hk0.tr ks1.L).tr f2).tr f3)
      refine hI.sub (fun R hR => Wh_step (s' := a3) ?_ hR) (fun R hR => Wh_step (s' := (k3, nI (i + 1))) ?_ hR)
      · rw [f_X11_readAllOf_L9, e1, Option.bind_some, if_neg (show ¬ (bI true, a1).1 = 0 by show ¬ bI true = 0; decide), e3, Option.bind_some, if_neg (show ¬ (nI 1, a2).1 = 0 by show ¬ nI 1 = 0; decide), e5]
        rfl
      · show f_X3_readAll_L12 sh ln gA (nI dp) μk (nI i) = _
        rw [f_X3_readAll_L12, if_neg g400, h.2.1.kind, if_pos (qe.mpr c), e2, Option.bind_some, e4, Option.bind_some, if_neg (show ¬ (nI 1, k2).1 = 0 by show ¬ nI 1 = 0; decide)]
        show ((f_X3_add sh ln k2 (2004 : Int32)).bind _) = _
        rw [e6, Option.bind_some, show (1 : Int32) = nI 1 from rfl, nI_add]
    · right
      refine ⟨a2, k2, x, Wh_end ?_, Wh_end ?_, g15, g7, (hq0.tr qf1.L).tr q2, (hk0.tr ks1.L).tw f2⟩
      · rw [f_X11_readAllOf_L9, e1, Option.bind_some, if_neg (show ¬ (bI true, a1).1 = 0 by show ¬ bI true = 0; decide), e3]
        rfl
      · show f_X3_readAll_L12 sh ln gA (nI dp) μk (nI i) = _
        rw [f_X3_readAll_L12, if_neg g400, h.2.1.kind, if_pos (qe.mpr c), e2, Option.bind_some, e4]
        rfl
  · rw [decide_eq_false c] at e1
    rw [if_neg c] at Q1
    left
    refine ⟨a1, μk, b, s, S, M, Wh_end ?_, Wh_end ?_, hb0, ⟨Q1, h.2.1, h.2.2.1.qf qf1, h.2.2.2.1, h.2.2.2.2⟩, hs0, hS0, hq0.tr qf1.L, hk0⟩
    · rw [f_X11_readAllOf_L9, e1]
      rfl
    · show f_X3_readAll_L12 sh ln gA (nI dp) μk (nI i) = _
      rw [f_X3_readAll_L12, if_neg g400, h.2.1.kind, if_neg (fun y => c (qe.mp y))]
      rfl
theorem v_all' {fA : Mm → Option (Int32 × Mm)} {gA : Mm → Int32 → Option (Int32 × Mm)} (hA : AP fA gA ln T z f cb dp req) (h3 : 3 ≤ req) : AP (f_X11_readAllOf fA) (fun μ v => f_X3_readAll sh ln gA μ v) ln T z f cb dp (req + 1) := by
  intro μq μk b s S M l h hl
  rcases hA μq μk b s S M l h (by omega) with ⟨a2, k2, b2, s2, S2, M2, e3, e4, hb2, L2, hs2, hS2, q2, f2⟩ | ⟨a2, k2, x, e3, e4, g15, g7, q2, f2⟩
  · have := v_allL (sh := sh) hA (μq0 := μq) (μk0 := μk) (b0 := b) (s0 := s) (S0 := S) (M0 := M) l hl h3 (z - b2) 0 a2 k2 b2 s2 S2 M2 rfl L2 (by omega) hb2 hs2 hS2 q2 f2
    refine this.sub (fun R hR => ?_) (fun R hR => ?_)
    · rw [f_X11_readAllOf, e3, Option.bind_some, if_neg (show ¬ (nI 1, a2).1 = 0 by show ¬ nI 1 = 0; decide)]
      exact hR
    · show f_X3_readAll sh ln gA μk (nI dp) = _
      rw [f_X3_readAll, e4, Option.bind_some, if_neg (show ¬ (nI 1, k2).1 = 0 by show ¬ nI 1 = 0; decide)]
      exact hR
  · right
    refine ⟨a2, k2, x, ?_, ?_, g15, g7, q2, f2⟩
    · rw [f_X11_readAllOf, e3]; rfl
    · show f_X3_readAll sh ln gA μk (nI dp) = _
      rw [f_X3_readAll, e4]; rfl
theorem v_anyL {fA : Mm → Option (Int32 × Mm)} {gA : Mm → Int32 → Option (Int32 × Mm)} (hA : AP fA gA ln T z f cb dp req) {μq0 μk0 : Mm} {b0 s0 : Nat} {S0 M0 : Nat → Nat} (l : List Bool) (hl : l.length + (req + 1) ≤ 40) (h3 : 3 ≤ req) : ∀ j i (μq μk : Mm) (b s : Nat) (S M : Nat → Nat), z - b = j → LV ln μq μk T z b f cb s S M (true :: l) dp → i ≤ s →
    b0 < b → s0 ≤ s ∧ s + b0 ≤ b + s0 → (∀ i, i < s0 → S i = S0 i ∧ M i = M0 i) → QL μq0 μq → FL cb μk0 μk →
    LVO (Wh (fun z : Mm => f_X11_readCond_L9 fA z) μq) (Wh (fun z : Mm × Int32 => f_X3_readAny_L12 sh ln gA (nI dp) z.1 z.2) (μk, nI i)) ln μq0 μk0 T z b0 f cb s0 S0 M0 (true :: l) dp := by
  intro j
  induction j using Nat.strongRecOn with
  | _ j ih =>
  intro i μq μk b s S M hj h his hb0 hs0 hS0 hq0 hk0
  have h4 := h.b4
  have hT := h.1.1.2.2.1
  have hlt := KN_lt (z := z) (hT b)
  have g400 : ¬ (400 : Int32) ≤ nI i := by rw [show (400 : Int32) = nI 400 from rfl, q_le (by omega) (by omega)]; omega
  have qe : (nI (KN T z b) = (311 : Int32)) = (KN T z b = 311) := q_eq (b := 311) (by omega) (by omega)
  obtain ⟨a1, e1, qf1, q15, Q1⟩ := t_passes h.1 (w := 15) (by omega)
  by_cases c : KN T z b = 311
  · rw [decide_eq_true c] at e1
    rw [if_pos c] at Q1
    have hbz := h.2.1.gt (by omega) c
    have hnx := nx_ok (T := T) hbz
    have hz4 := h.1.1.2.1
    obtain ⟨k1, e2, ks1, K1⟩ := k_step1 (sh := sh) h.2.1 hbz
    have L1 : LV ln a1 k1 T z (nx T z b) f cb s S M (true :: l) dp := ⟨Q1, K1, h.2.2.1.qf qf1, h.2.2.2.1.ks ks1, h.2.2.2.2.mono (by omega) (by omega)⟩
    rcases hA a1 k1 (nx T z b) s S M (true :: l) L1 (by rw [List.length_cons]; omega) with ⟨a2, k2, b2, s2, S2, M2, e3, e4, hb2, L2, hs2, hS2, q2, f2⟩ | ⟨a2, k2, x, e3, e4, g15, g7, q2, f2⟩
    · have h42 := L2.b4
      obtain ⟨a3, k3, e5, e6, L3, q3, f3⟩ := v_em (sh := sh) L2.1 L2.2.1 L2.2.2.1 L2.2.2.2.1 L2.2.2.2.2 (x := 12) (v := (12 : Int32)) (w := (2005 : Int32)) (l' := true :: l) rfl rfl (by omega) (by omega) rfl (by rw [List.length_cons]; omega) (by omega) h42.2.1
      have hI := ih (z - b2) (by have := L2.2.1.bz; omega) (i + 1) a3 k3 b2 (s2 + 1) _ _ rfl L3 (by omega) (by omega) (by omega) (fun i hi => ⟨(updN_lt (show i < s2 by omega)).trans ((hS2 i (by omega)).1.trans (hS0 i hi).1), (updN_lt (show i < s2 by omega)).trans ((hS2 i (by omega)).2.trans (hS0 i hi).2)⟩) (((hq0.tr qf1.L).tr q2).tr q3) (((hk0.tr ks1.L).tr f2).tr f3)
      refine hI.sub (fun R hR => Wh_step (s' := a3) ?_ hR) (fun R hR => Wh_step (s' := (k3, nI (i + 1))) ?_ hR)
      · rw [f_X11_readCond_L9, e1, Option.bind_some, if_neg (show ¬ (bI true, a1).1 = 0 by show ¬ bI true = 0; decide), e3, Option.bind_some, if_neg (show ¬ (nI 1, a2).1 = 0 by show ¬ nI 1 = 0; decide), e5]
        rfl
      · show f_X3_readAny_L12 sh ln gA (nI dp) μk (nI i) = _
        rw [f_X3_readAny_L12, if_neg g400, h.2.1.kind, if_pos (qe.mpr c), e2, Option.bind_some, e4, Option.bind_some, if_neg (show ¬ (nI 1, k2).1 = 0 by show ¬ nI 1 = 0; decide)]
        show ((f_X3_add sh ln k2 (2005 : Int32)).bind _) = _
        rw [e6, Option.bind_some, show (1 : Int32) = nI 1 from rfl, nI_add]
    · right
      refine ⟨a2, k2, x, Wh_end ?_, Wh_end ?_, g15, g7, (hq0.tr qf1.L).tr q2, (hk0.tr ks1.L).tw f2⟩
      · rw [f_X11_readCond_L9, e1, Option.bind_some, if_neg (show ¬ (bI true, a1).1 = 0 by show ¬ bI true = 0; decide), e3]
        rfl
      · show f_X3_readAny_L12 sh ln gA (nI dp) μk (nI i) = _
        rw [f_X3_readAny_L12, if_neg g400, h.2.1.kind, if_pos (qe.mpr c), e2, Option.bind_some, e4]
        rfl
  · rw [decide_eq_false c] at e1
    rw [if_neg c] at Q1
    left
    refine ⟨a1, μk, b, s, S, M, Wh_end ?_, Wh_end ?_, hb0, ⟨Q1, h.2.1, h.2.2.1.qf qf1, h.2.2.2.1, h.2.2.2.2⟩, hs0, hS0, hq0.tr qf1.L, hk0⟩
    · rw [f_X11_readCond_L9, e1]
      rfl
    · show f_X3_readAny_L12 sh ln gA (nI dp) μk (nI i) = _
      rw [f_X3_readAny_L12, if_neg g400, h.2.1.kind, if_neg (fun y => c (qe.mp y))]
      rfl
theorem v_any' {fA : Mm → Option (Int32 × Mm)} {gA : Mm → Int32 → Option (Int32 × Mm)} (hA : AP fA gA ln T z f cb dp req) (h3 : 3 ≤ req) : AP (f_X11_readCond fA) (fun μ v => f_X3_readAny sh ln gA μ v) ln T z f cb dp (req + 1) := by
  intro μq μk b s S M l h hl
  rcases hA μq μk b s S M l h (by omega) with ⟨a2, k2, b2, s2, S2, M2, e3, e4, hb2, L2, hs2, hS2, q2, f2⟩ | ⟨a2, k2, x, e3, e4, g15, g7, q2, f2⟩
  · have := v_anyL (sh := sh) hA (μq0 := μq) (μk0 := μk) (b0 := b) (s0 := s) (S0 := S) (M0 := M) l hl h3 (z - b2) 0 a2 k2 b2 s2 S2 M2 rfl L2 (by omega) hb2 hs2 hS2 q2 f2
    refine this.sub (fun R hR => ?_) (fun R hR => ?_)
    · rw [f_X11_readCond, e3, Option.bind_some, if_neg (show ¬ (nI 1, a2).1 = 0 by show ¬ nI 1 = 0; decide)]
      exact hR
    · show f_X3_readAny sh ln gA μk (nI dp) = _
      rw [f_X3_readAny, e4, Option.bind_some, if_neg (show ¬ (nI 1, k2).1 = 0 by show ¬ nI 1 = 0; decide)]
      exact hR
  · right
    refine ⟨a2, k2, x, ?_, ?_, g15, g7, q2, f2⟩
    · rw [f_X11_readCond, e3]; rfl
    · show f_X3_readAny sh ln gA μk (nI dp) = _
      rw [f_X3_readAny, e4]; rfl
theorem v_atom' {fC fA : Mm → Option (Int32 × Mm)} {gC gA : Mm → Int32 → Option (Int32 × Mm)} (hdp : dp ≤ 6) (h3 : 3 ≤ req) (hC : dp < 6 → AP fC gC ln T z f cb (dp + 1) req ∧ AP fA gA ln T z f cb (dp + 1) req) : AP (f_X11_readAtom fC fA) (fun μ v => f_X3_readAtom sh ln gC gA μ v) ln T z f cb dp req := by
  intro μq μk b s S M l h hl
  have h4 := h.b4
  have hT := h.1.1.2.2.1
  have hz4 := h.1.1.2.1
  have hlt := KN_lt (z := z) (hT b)
  have qe : ∀ k : Nat, k < 2147483648 → (nI (KN T z b) = nI k) = (KN T z b = k) := fun k hk => q_eq (by omega) hk
  have t1 : ∀ (a : Mm), ¬ ((bI true, a) : Int32 × Mm).1 = 0 := fun a => by show ¬ bI true = 0; decide
  have t0 : ∀ (a : Mm), ((bI false, a) : Int32 × Mm).1 = 0 := fun a => rfl
  have u1 : ∀ (a : Mm), ¬ ((nI 1, a) : Int32 × Mm).1 = 0 := fun a => by show ¬ nI 1 = 0; decide
  have q6 : (nI dp = (6 : Int32)) = (dp = 6) := q_eq (b := 6) (by omega) (by omega)
  have ql6 : (nI dp < (6 : Int32)) = (dp < 6) := q_lt (b := 6) (by omega) (by omega)
  obtain ⟨a1, e1, qf1, q15, Q1⟩ := t_sign h.1 (c := 40) (by decide)
  have E1 := h.2.2.1.qf qf1
  show LVO (f_X11_readAtom fC fA μq) (f_X3_readAtom sh ln gC gA μk (nI dp)) ln μq μk T z b f cb s S M (true :: l) dp
  by_cases c40 : KN T z b = 40
  · rw [decide_eq_true c40] at e1
    rw [if_pos c40] at Q1
    have hbz := h.2.1.gt (by omega) c40
    have hnx := nx_ok (T := T) hbz
    have hk0 : f_X3_readAtom sh ln gC gA μk (nI dp) = f_X3_readAtom_J19 sh ln gC gA μk (nI dp) := by
      rw [f_X3_readAtom, h.2.1.kind, c40, if_neg (by decide), if_pos (by decide)]
    have hq0 : f_X11_readAtom fC fA μq = (if nI dp = (6 : Int32) then some ((0 : Int32), a1) else ((fC (mst a1 (0, 0) 16 (nI (dp + 1)))).bind fun x31 => if x31.1 = 0 then some ((0 : Int32), x31.2) else ((f_X11_sign (mst x31.2 (0, 0) 16 ((x31.2 (0, 0) 16) - (1 : Int32))) (41 : Int32)).bind fun x52 => cbX x52))) := by
      rw [f_X11_readAtom, show (40 : Int32) = nI 40 from rfl, e1, Option.bind_some, if_neg (t1 a1)]
      show (if (a1 (0, 0) 16) = (6 : Int32) then _ else (fC (mst a1 (0, 0) 16 ((a1 (0, 0) 16) + (1 : Int32)))).bind _) = _
      rw [E1.2.1, show (1 : Int32) = nI 1 from rfl, nI_add]
      rfl
    by_cases d6 : dp = 6
    · right
      refine ⟨a1, mst μk (6, 1) 7 (nI b), b, ?_, ?_, q15, wr71, qf1.L, FW.wr⟩
      · rw [hq0, if_pos (q6.mpr d6)]; rfl
      · rw [hk0, f_X3_readAtom_J19, if_neg (fun y => by have := ql6.mp y; omega), h.2.1.beg, f_X8_wrongAt_1, Option.bind_some]
        exact q_cb0
    · have hlt6 : dp < 6 := by omega
      obtain ⟨k1, e2, ks1, K1⟩ := k_step1 (sh := sh) h.2.1 hbz
      have L1 : LV ln (mst a1 (0, 0) 16 (nI (dp + 1))) k1 T z (nx T z b) f cb s S M l (dp + 1) := ⟨Q1.st (by omega) (by omega), K1, E1.at16 _, h.2.2.2.1.ks ks1, h.2.2.2.2.mono (by omega) (by omega)⟩
      have hk1 : f_X3_readAtom sh ln gC gA μk (nI dp) = ((gC k1 (nI (dp + 1))).bind fun x90 => if x90.1 = 0 then some ((0 : Int32), x90.2) else ((f_X8_take_1 sh ln x90.2 (41 : Int32)).bind fun x99 => if x99.1 = 0 then some ((0 : Int32), x99.2) else (some ((1 : Int32), x99.2)))) := by
        rw [hk0, f_X3_readAtom_J19, if_pos (ql6.mpr hlt6), h.2.1.kind, c40, if_neg (by decide), f_X3_readAtom_J49, e2, Option.bind_some, if_pos rfl, show (1 : Int32) = nI 1 from rfl, nI_add]
      rcases (hC hlt6).1 _ k1 (nx T z b) s S M l L1 hl with ⟨a2, k2, b2, s2, S2, M2, e3, e4, hb2, L2, hs2, hS2, q2, f2⟩ | ⟨a2, k2, x, e3, e4, g15, g7, q2, f2⟩
      · have h42 := L2.b4
        have hlt2 := KN_lt (z := z) (hT b2)
        have em : mst a2 (0, 0) 16 ((a2 (0, 0) 16) - (1 : Int32)) = mst a2 (0, 0) 16 (nI dp) := by rw [L2.2.2.1.2.1, show (1 : Int32) = nI 1 from rfl, q_sub (by omega), Nat.add_sub_cancel]
        have Q3 : QC (mst a2 (0, 0) 16 (nI dp)) T z b2 := L2.1.st (by omega) (by omega)
        obtain ⟨a3, e5, qf3, q315, Q4⟩ := t_sign Q3 (c := 41) (by decide)
        have E3 := (L2.2.2.1.at16 dp).qf qf3
        have htk := k_take1 (sh := sh) L2.2.1 (v := 41) (by omega)
        have hq1 : f_X11_readAtom fC fA μq = cbX (bI (decide (KN T z b2 = 41)), a3) := by
          rw [hq0, if_neg (fun y => d6 (q6.mp y)), e3, Option.bind_some, if_neg (u1 a2)]
          show ((f_X11_sign (mst a2 (0, 0) 16 ((a2 (0, 0) 16) - (1 : Int32))) (41 : Int32)).bind fun x52 => cbX x52) = _
          rw [em, show (41 : Int32) = nI 41 from rfl, e5, Option.bind_some]
        by_cases c41 : KN T z b2 = 41
        · obtain ⟨k3, e6, ks3, K3⟩ := htk.1 c41
          rw [if_pos c41] at Q4
          rw [decide_eq_true c41] at hq1
          have hb2z := L2.2.1.gt (by omega) c41
          have hnx2 := nx_ok (T := T) hb2z
          left
          refine ⟨a3, k3, nx T z b2, s2, S2, M2, hq1.trans q_cb1, ?_, by omega, ⟨Q4, K3, E3, L2.2.2.2.1.ks ks3, L2.2.2.2.2.mono (by omega) (by omega)⟩, by omega, hS2, (((qf1.L.tr QL.at16).tr q2).tr QL.at16).tr qf3.L, (ks1.L.tr f2).tr ks3.L⟩
          rw [hk1, e4, Option.bind_some, if_neg (u1 k2)]
          show ((f_X8_take_1 sh ln k2 (41 : Int32)).bind _) = _
          rw [show (41 : Int32) = nI 41 from rfl, e6]
          rfl
        · rw [decide_eq_false c41] at hq1
          right
          refine ⟨a3, mst k2 (6, 1) 7 (nI b2), b2, hq1.trans q_cb0, ?_, q315, wr71, (((qf1.L.tr QL.at16).tr q2).tr QL.at16).tr qf3.L, (ks1.L.tr f2).tw FW.wr⟩
          rw [hk1, e4, Option.bind_some, if_neg (u1 k2)]
          show ((f_X8_take_1 sh ln k2 (41 : Int32)).bind _) = _
          rw [show (41 : Int32) = nI 41 from rfl, htk.2 c41]
          rfl
      · right
        refine ⟨a2, k2, x, ?_, ?_, g15, g7, (qf1.L.tr QL.at16).tr q2, (ks1.L (cb := cb)).tw f2⟩
        · rw [hq0, if_neg (fun y => d6 (q6.mp y)), e3]; rfl
        · rw [hk1, e4]; rfl
  · rw [decide_eq_false c40] at e1
    rw [if_neg c40] at Q1
    obtain ⟨a2, e2, qf2, q215, Q2⟩ := t_passes Q1 (w := 17) (by omega)
    have E2 := E1.qf qf2
    have hq0 : f_X11_readAtom fC fA μq = (if (bI (decide (KN T z b = 296 + 17)), a2).1 = 0 then (f_X11_passes 18 a2).bind fun x119 => if x119.1 = 0 then (f_X11_passes 19 x119.2).bind fun x131 => if x131.1 = 0 then (f_X11_readSum x131.2).bind fun x154 => if x154.1 = 0 then some ((0 : Int32), x154.2) else ((f_X11_sign x154.2 (60 : Int32)).bind fun x165 => if x165.1 = 0 then (f_X11_sign x165.2 (62 : Int32)).bind fun x176 => if x176.1 = 0 then some ((0 : Int32), x176.2) else (f_X11_readAtom_J182 fC fA x176.2 x165.1) else (f_X11_readAtom_J182 fC fA x165.2 x165.1)) else (if x119.1 = 0 then (f_X11_emits x131.2 (5 : Int32) (0 : Int32)).bind fun x148 => some ((1 : Int32), x148) else ((f_X11_emits x131.2 (4 : Int32) (0 : Int32)).bind fun x148 => some ((1 : Int32), x148))) else (if x119.1 = 0 then (f_X11_emits x119.2 (5 : Int32) (0 : Int32)).bind fun x148 => some ((1 : Int32), x148) else ((f_X11_emits x119.2 (4 : Int32) (0 : Int32)).bind fun x148 => some ((1 : Int32), x148))) else (if (a2 (0, 0) 16) = (6 : Int32) then some ((0 : Int32), a2) else ((fA (mst a2 (0, 0) 16 ((a2 (0, 0) 16) + (1 : Int32)))).bind fun x88 => if x88.1 = 0 then some ((0 : Int32), x88.2) else ((f_X11_emits (mst x88.2 (0, 0) 16 ((x88.2 (0, 0) 16) - (1 : Int32))) (10 : Int32) (0 : Int32)).bind fun x110 => some ((1 : Int32), x110))))) := by
      rw [f_X11_readAtom, show (40 : Int32) = nI 40 from rfl, e1, Option.bind_some, if_pos (t0 a1)]
      show ((f_X11_passes 17 a1).bind _) = _
      rw [e2, Option.bind_some]
    by_cases cn : KN T z b = 313
    · rw [decide_eq_true cn, if_neg (t1 a2)] at hq0
      rw [if_pos cn] at Q2
      have hbz := h.2.1.gt (by omega) cn
      have hnx := nx_ok (T := T) hbz
      have hk0 : f_X3_readAtom sh ln gC gA μk (nI dp) = f_X3_readAtom_J19 sh ln gC gA μk (nI dp) := by
        rw [f_X3_readAtom, h.2.1.kind, cn, if_pos (by decide)]
      have hq1 : f_X11_readAtom fC fA μq = (if nI dp = (6 : Int32) then some ((0 : Int32), a2) else ((fA (mst a2 (0, 0) 16 (nI (dp + 1)))).bind fun x88 => if x88.1 = 0 then some ((0 : Int32), x88.2) else ((f_X11_emits (mst x88.2 (0, 0) 16 ((x88.2 (0, 0) 16) - (1 : Int32))) (10 : Int32) (0 : Int32)).bind fun x110 => some ((1 : Int32), x110)))) := by
        rw [hq0]
        show (if (a2 (0, 0) 16) = (6 : Int32) then _ else (fA (mst a2 (0, 0) 16 ((a2 (0, 0) 16) + (1 : Int32)))).bind _) = _
        rw [E2.2.1, show (1 : Int32) = nI 1 from rfl, nI_add]
      by_cases d6 : dp = 6
      · right
        refine ⟨a2, mst μk (6, 1) 7 (nI b), b, ?_, ?_, q215, wr71, qf1.L.tr qf2.L, FW.wr⟩
        · rw [hq1, if_pos (q6.mpr d6)]; rfl
        · rw [hk0, f_X3_readAtom_J19, if_neg (fun y => by have := ql6.mp y; omega), h.2.1.beg, f_X8_wrongAt_1, Option.bind_some]
          exact q_cb0
      · have hlt6 : dp < 6 := by omega
        obtain ⟨k1, e3, ks1, K1⟩ := k_step1 (sh := sh) h.2.1 hbz
        have L1 : LV ln (mst a2 (0, 0) 16 (nI (dp + 1))) k1 T z (nx T z b) f cb s S M l (dp + 1) := ⟨Q2.st (by omega) (by omega), K1, E2.at16 _, h.2.2.2.1.ks ks1, h.2.2.2.2.mono (by omega) (by omega)⟩
        have hk1 : f_X3_readAtom sh ln gC gA μk (nI dp) = ((gA k1 (nI (dp + 1))).bind fun x62 => if x62.1 = 0 then some ((0 : Int32), x62.2) else ((f_X3_add sh ln x62.2 (2003 : Int32)).bind fun x72 => if x72.1 = 0 then some ((0 : Int32), x72.2) else (some ((1 : Int32), x72.2)))) := by
          rw [hk0, f_X3_readAtom_J19, if_pos (ql6.mpr hlt6), h.2.1.kind, cn, if_pos (by decide), f_X3_readAtom_J49, e3, Option.bind_some, if_neg (show ¬ (1 : Int32) = 0 by decide), show (1 : Int32) = nI 1 from rfl, nI_add]
        rcases (hC hlt6).2 _ k1 (nx T z b) s S M l L1 hl with ⟨a3, k2, b2, s2, S2, M2, e4, e5, hb2, L2, hs2, hS2, q2, f2⟩ | ⟨a3, k2, x, e4, e5, g15, g7, q2, f2⟩
        · have h42 := L2.b4
          have em : mst a3 (0, 0) 16 ((a3 (0, 0) 16) - (1 : Int32)) = mst a3 (0, 0) 16 (nI dp) := by rw [L2.2.2.1.2.1, show (1 : Int32) = nI 1 from rfl, q_sub (by omega), Nat.add_sub_cancel]
          obtain ⟨a4, k3, e6, e7, L3, q3, f3⟩ := v_em (sh := sh) (aq := mst a3 (0, 0) 16 (nI dp)) (L2.1.st (by omega) (by omega)) L2.2.1 (L2.2.2.1.at16 dp) L2.2.2.2.1 L2.2.2.2.2 (x := 10) (v := (10 : Int32)) (w := (2003 : Int32)) (l' := true :: l) rfl rfl (by omega) (by omega) rfl (by rw [List.length_cons]; omega) (by omega) h42.2.1
          left
          refine ⟨a4, k3, b2, s2 + 1, _, _, ?_, ?_, by omega, L3, by omega, fun i hi => ⟨(updN_lt (show i < s2 by omega)).trans (hS2 i hi).1, (updN_lt (show i < s2 by omega)).trans (hS2 i hi).2⟩, ((((qf1.L.tr qf2.L).tr QL.at16).tr q2).tr QL.at16).tr q3, (ks1.L.tr f2).tr f3⟩
          · rw [hq1, if_neg (fun y => d6 (q6.mp y)), e4, Option.bind_some, if_neg (u1 a3)]
            show ((f_X11_emits (mst a3 (0, 0) 16 ((a3 (0, 0) 16) - (1 : Int32))) (10 : Int32) (0 : Int32)).bind _) = _
            rw [em, e6]; rfl
          · rw [hk1, e5, Option.bind_some, if_neg (u1 k2)]
            show ((f_X3_add sh ln k2 (2003 : Int32)).bind _) = _
            rw [e7]; rfl
        · right
          refine ⟨a3, k2, x, ?_, ?_, g15, g7, ((qf1.L.tr qf2.L).tr QL.at16).tr q2, (ks1.L (cb := cb)).tw f2⟩
          · rw [hq1, if_neg (fun y => d6 (q6.mp y)), e4]; rfl
          · rw [hk1, e5]; rfl
    · rw [decide_eq_false cn, if_pos (t0 a2)] at hq0
      rw [if_neg cn] at Q2
      obtain ⟨a3, e3, qf3, q315, Q3⟩ := t_passes Q2 (w := 18) (by omega)
      have E3 := E2.qf qf3
      have hk0 : f_X3_readAtom sh ln gC gA μk (nI dp) = (if nI (KN T z b) = (314 : Int32) then f_X3_readAtom_J131 sh ln gC gA μk else (if nI (KN T z b) = (315 : Int32) then f_X3_readAtom_J131 sh ln gC gA μk else ((f_X3_readSum sh ln μk).bind fun x162 => if x162.1 = 0 then some ((0 : Int32), x162.2) else (if (x162.2 (6, 1) 8) = (60 : Int32) then if (x162.2 (6, 1) 8) = (60 : Int32) then f_X3_readAtom_J215 sh ln gC gA x162.2 (2001 : Int32) else (f_X3_readAtom_J215 sh ln gC gA x162.2 (2002 : Int32)) else (if (x162.2 (6, 1) 8) = (62 : Int32) then if (x162.2 (6, 1) 8) = (60 : Int32) then f_X3_readAtom_J215 sh ln gC gA x162.2 (2001 : Int32) else (f_X3_readAtom_J215 sh ln gC gA x162.2 (2002 : Int32)) else ((f_X8_wrongAt_1 sh ln x162.2 (x162.2 (6, 1) 9)).bind fun x193 => cbX x193)))))) := by
        rw [f_X3_readAtom, h.2.1.kind, if_neg (show ¬ nI (KN T z b) = (313 : Int32) from fun y => cn ((qe 313 (by omega)).mp y)), if_neg (show ¬ nI (KN T z b) = (40 : Int32) from fun y => c40 ((qe 40 (by omega)).mp y))]
        rfl
      -- sure and seen
      have word : ∀ (x : Nat) (v : Int32) (aq' : Mm) (w : Int32), (x = 4 ∨ x = 5) → v = nI x → w = nI (1000 + x) → b < z → QC aq' T z (nx T z b) → EQ aq' s S M dp → QL μq aq' → f_X11_readAtom fC fA μq = ((f_X11_emits aq' v (0 : Int32)).bind fun x148 => some ((1 : Int32), x148)) → f_X3_readAtom sh ln gC gA μk (nI dp) = ((f_X3_add sh ln μk w).bind fun x151 => (f_X8_step_1 sh ln x151.2).bind fun x156 => some ((1 : Int32), x156)) →
          LVO (f_X11_readAtom fC fA μq) (f_X3_readAtom sh ln gC gA μk (nI dp)) ln μq μk T z b f cb s S M (true :: l) dp := by
        intro x v aq' w hx hv hw hbz Qa Ea qa hqq hkk
        have hnx := nx_ok (T := T) hbz
        have hcs : cs x 0 = 1000 + x := by unfold cs; rw [if_pos (by omega)]
        obtain ⟨a4, e4, E4, Q4, l4, _⟩ := q_emits Ea (by omega) Qa x 0 v (0 : Int32) hv (fun y => by omega)
        obtain ⟨k1, e5, EK1, K1, F1⟩ := k_add (sh := sh) h.2.2.2.1 h4.2.2.1 (by omega) h.2.1 x 0 w (by rw [hcs]; exact hw)
        obtain ⟨k2, e6, ks2, K2⟩ := k_step1 (sh := sh) K1 hbz
        left
        refine ⟨a4, k2, nx T z b, s + 1, _, _, by rw [hqq, e4]; rfl, ?_, hnx.1, ⟨Q4, K2, E4, EK1.ks ks2, h.2.2.2.2.emit (by omega) (by omega) ?_ (by rw [List.length_cons]; omega) (by omega) (by omega)⟩, by omega, fun i hi => ⟨updN_lt hi, updN_lt hi⟩, qa.tr l4, F1.tr ks2.L⟩
        · rw [hkk, e5, Option.bind_some]
          show ((f_X8_step_1 sh ln k1).bind _) = _
          rw [e6]; rfl
        · unfold tyN
          rw [if_pos (by omega), if_neg (by omega)]
      by_cases cs4 : KN T z b = 314
      · rw [decide_eq_true cs4] at e3
        rw [if_pos cs4] at Q3
        have hbz := h.2.1.gt (by omega) cs4
        refine word 4 (4 : Int32) a3 (1004 : Int32) (Or.inl rfl) rfl rfl hbz Q3 E3 ((qf1.L.tr qf2.L).tr qf3.L) ?_ ?_
        · rw [hq0]
          show ((f_X11_passes 18 a2).bind _) = _
          rw [e3, Option.bind_some, if_neg (t1 a3)]
          show (if bI true = 0 then _ else _) = _
          rw [if_neg (show ¬ bI true = 0 by decide)]
        · rw [hk0, cs4, if_pos (by decide), f_X3_readAtom_J131, h.2.1.kind, cs4, if_pos (by decide)]
      · rw [decide_eq_false cs4] at e3
        rw [if_neg cs4] at Q3
        obtain ⟨a4, e4, qf4, q415, Q4⟩ := t_passes Q3 (w := 19) (by omega)
        have E4 := E3.qf qf4
        by_cases cs5 : KN T z b = 315
        · rw [decide_eq_true cs5] at e4
          rw [if_pos cs5] at Q4
          have hbz := h.2.1.gt (by omega) cs5
          refine word 5 (5 : Int32) a4 (1005 : Int32) (Or.inr rfl) rfl rfl hbz Q4 E4 (((qf1.L.tr qf2.L).tr qf3.L).tr qf4.L) ?_ ?_
          · rw [hq0]
            show ((f_X11_passes 18 a2).bind _) = _
            rw [e3, Option.bind_some, if_pos (t0 a3)]
            show ((f_X11_passes 19 a3).bind _) = _
            rw [e4, Option.bind_some, if_neg (t1 a4)]
            show (if bI false = 0 then _ else _) = _
            rw [if_pos (show bI false = 0 from rfl)]
          · rw [hk0, cs5, if_neg (by decide), if_pos (by decide), f_X3_readAtom_J131, h.2.1.kind, cs5, if_neg (by decide)]
        · rw [decide_eq_false cs5] at e4
          rw [if_neg cs5] at Q4
          have L4 : LV ln a4 μk T z b f cb s S M l dp := ⟨Q4, h.2.1, E4, h.2.2.2.1, h.2.2.2.2⟩
          have qL4 : QL μq a4 := ((qf1.L.tr qf2.L).tr qf3.L).tr qf4.L
          have hq1 : f_X11_readAtom fC fA μq = ((f_X11_readSum a4).bind fun x154 => if x154.1 = 0 then some ((0 : Int32), x154.2) else ((f_X11_sign x154.2 (60 : Int32)).bind fun x165 => if x165.1 = 0 then (f_X11_sign x165.2 (62 : Int32)).bind fun x176 => if x176.1 = 0 then some ((0 : Int32), x176.2) else (f_X11_readAtom_J182 fC fA x176.2 x165.1) else (f_X11_readAtom_J182 fC fA x165.2 x165.1))) := by
            rw [hq0]
            show ((f_X11_passes 18 a2).bind _) = _
            rw [e3, Option.bind_some, if_pos (t0 a3)]
            show ((f_X11_passes 19 a3).bind _) = _
            rw [e4, Option.bind_some, if_pos (t0 a4)]
          have hk1 : f_X3_readAtom sh ln gC gA μk (nI dp) = ((f_X3_readSum sh ln μk).bind fun x162 => if x162.1 = 0 then some ((0 : Int32), x162.2) else (if (x162.2 (6, 1) 8) = (60 : Int32) then if (x162.2 (6, 1) 8) = (60 : Int32) then f_X3_readAtom_J215 sh ln gC gA x162.2 (2001 : Int32) else (f_X3_readAtom_J215 sh ln gC gA x162.2 (2002 : Int32)) else (if (x162.2 (6, 1) 8) = (62 : Int32) then if (x162.2 (6, 1) 8) = (60 : Int32) then f_X3_readAtom_J215 sh ln gC gA x162.2 (2001 : Int32) else (f_X3_readAtom_J215 sh ln gC gA x162.2 (2002 : Int32)) else ((f_X8_wrongAt_1 sh ln x162.2 (x162.2 (6, 1) 9)).bind fun x193 => cbX x193)))) := by
            rw [hk0, if_neg (show ¬ nI (KN T z b) = (314 : Int32) from fun y => cs4 ((qe 314 (by omega)).mp y)), if_neg (show ¬ nI (KN T z b) = (315 : Int32) from fun y => cs5 ((qe 315 (by omega)).mp y))]
          rcases v_sum (sh := sh) L4 (by omega) with ⟨a5, k5, b5, s5, S5, M5, e5, e6, hb5, L5, hs5, hS5, q5, f5⟩ | ⟨a5, k5, x, e5, e6, g15, g7, q5, f5⟩
          · have h45 := L5.b4
            have hlt5 := KN_lt (z := z) (hT b5)
            have qe5 : ∀ k : Nat, k < 2147483648 → (nI (KN T z b5) = nI k) = (KN T z b5 = k) := fun k hk => q_eq (by omega) hk
            obtain ⟨a6, e7, qf6, q615, Q6⟩ := t_sign L5.1 (c := 60) (by decide)
            have E6 := L5.2.2.1.qf qf6
            have hk2 : f_X3_readAtom sh ln gC gA μk (nI dp) = (if nI (KN T z b5) = (60 : Int32) then f_X3_readAtom_J215 sh ln gC gA k5 (2001 : Int32) else (if nI (KN T z b5) = (62 : Int32) then f_X3_readAtom_J215 sh ln gC gA k5 (2002 : Int32) else some (nI 0, mst k5 (6, 1) 7 (nI b5)))) := by
              rw [hk1, e6, Option.bind_some, if_neg (u1 k5)]
              show (if (k5 (6, 1) 8) = (60 : Int32) then if (k5 (6, 1) 8) = (60 : Int32) then f_X3_readAtom_J215 sh ln gC gA k5 (2001 : Int32) else (f_X3_readAtom_J215 sh ln gC gA k5 (2002 : Int32)) else (if (k5 (6, 1) 8) = (62 : Int32) then if (k5 (6, 1) 8) = (60 : Int32) then f_X3_readAtom_J215 sh ln gC gA k5 (2001 : Int32) else (f_X3_readAtom_J215 sh ln gC gA k5 (2002 : Int32)) else ((f_X8_wrongAt_1 sh ln k5 (k5 (6, 1) 9)).bind fun x193 => cbX x193))) = _
              rw [L5.2.1.kind, L5.2.1.beg]
              by_cases d : nI (KN T z b5) = (60 : Int32)
              · rw [if_pos d, if_pos d, if_pos d]
              · rw [if_neg d, if_neg d, if_neg d]
                rfl
            -- behind the sign that compares
            have cmp : ∀ (x : Nat) (v2 : Int32) (w : Int32) (a7 : Mm), (x = 8 ∨ x = 9) → w = nI (1993 + x) → b5 < z → QC a7 T z (nx T z b5) → EQ a7 s5 S5 M5 dp → QL μq a7 → f_X11_readAtom fC fA μq = f_X11_readAtom_J182 fC fA a7 v2 → (∀ a, f_X11_readAtom_J182 fC fA a v2 = ((f_X11_readSum a).bind fun x183 => if x183.1 = 0 then some ((0 : Int32), x183.2) else ((f_X11_emits x183.2 (nI x) (0 : Int32)).bind fun x204 => some ((1 : Int32), x204)))) → f_X3_readAtom sh ln gC gA μk (nI dp) = f_X3_readAtom_J215 sh ln gC gA k5 w →
                LVO (f_X11_readAtom fC fA μq) (f_X3_readAtom sh ln gC gA μk (nI dp)) ln μq μk T z b f cb s S M (true :: l) dp := by
              intro x v2 w a7 hx hw hb5z Q7 E7 q7 hqq hJ hkk
              have hnx5 := nx_ok (T := T) hb5z
              obtain ⟨k6, e8, ks6, K6⟩ := k_step1 (sh := sh) L5.2.1 hb5z
              have L7 : LV ln a7 k6 T z (nx T z b5) f cb s5 S5 M5 (false :: l) dp := ⟨Q7, K6, E7, L5.2.2.2.1.ks ks6, L5.2.2.2.2.mono (by omega) (by omega)⟩
              have hkJ : f_X3_readAtom_J215 sh ln gC gA k5 w = ((f_X3_readSum sh ln k6).bind fun x221 => if x221.1 = 0 then some ((0 : Int32), x221.2) else ((f_X3_add sh ln x221.2 w).bind fun x229 => if x229.1 = 0 then some ((0 : Int32), x229.2) else (some ((1 : Int32), x229.2)))) := by
                rw [f_X3_readAtom_J215, e8, Option.bind_some]
              rcases v_sum (sh := sh) L7 (by rw [List.length_cons]; omega) with ⟨a8, k8, b8, s8, S8, M8, e9, e10, hb8, L8, hs8, hS8, q8, f8⟩ | ⟨a8, k8, x8, e9, e10, g15, g7, q8, f8⟩
              · have h48 := L8.b4
                have hcs : cs x 0 = 1993 + x := by unfold cs; rw [if_neg (by omega), if_neg (by omega)]
                obtain ⟨a9, k9, e11, e12, L9, q9, f9⟩ := v_em (sh := sh) L8.1 L8.2.1 L8.2.2.1 L8.2.2.2.1 L8.2.2.2.2 (x := x) (v := nI x) (w := w) (l' := true :: l) rfl (by rw [hcs]; exact hw) (by omega) (by omega) (by
                  unfold tyN
                  rw [if_neg (by omega), if_neg (by omega), if_neg (by omega), if_neg (by omega), if_pos hx]) (by rw [List.length_cons]; omega) (by omega) h48.2.1
                left
                refine ⟨a9, k9, b8, s8 + 1, _, _, ?_, ?_, by omega, L9, by omega, fun i hi => ⟨(updN_lt (show i < s8 by omega)).trans ((hS8 i (by omega)).1.trans (hS5 i hi).1), (updN_lt (show i < s8 by omega)).trans ((hS8 i (by omega)).2.trans (hS5 i hi).2)⟩, (q7.tr q8).tr q9, ((f5.tr ks6.L).tr f8).tr f9⟩
                · rw [hqq, hJ, e9, Option.bind_some, if_neg (u1 a8)]
                  show ((f_X11_emits a8 (nI x) (0 : Int32)).bind _) = _
                  rw [e11]; rfl
                · rw [hkk, hkJ, e10, Option.bind_some, if_neg (u1 k8)]
                  show ((f_X3_add sh ln k8 w).bind _) = _
                  rw [e12]; rfl
              · right
                refine ⟨a8, k8, x8, ?_, ?_, g15, g7, q7.tr q8, (f5.tr ks6.L).tw f8⟩
                · rw [hqq, hJ, e9]; rfl
                · rw [hkk, hkJ, e10]; rfl
            have hq2 : f_X11_readAtom fC fA μq = (if bI (decide (KN T z b5 = 60)) = 0 then (f_X11_sign a6 (62 : Int32)).bind fun x176 => if x176.1 = 0 then some ((0 : Int32), x176.2) else (f_X11_readAtom_J182 fC fA x176.2 (bI (decide (KN T z b5 = 60)))) else (f_X11_readAtom_J182 fC fA a6 (bI (decide (KN T z b5 = 60))))) := by
              rw [hq1, e5, Option.bind_some, if_neg (u1 a5)]
              show ((f_X11_sign a5 (60 : Int32)).bind _) = _
              rw [show (60 : Int32) = nI 60 from rfl, e7, Option.bind_some]
            by_cases c60 : KN T z b5 = 60
            · rw [decide_eq_true c60, if_neg (show ¬ bI true = 0 by decide)] at hq2
              rw [if_pos c60] at Q6
              exact cmp 8 (bI true) (2001 : Int32) a6 (Or.inl rfl) rfl (L5.2.1.gt (by omega) c60) Q6 E6 ((qL4.tr q5).tr qf6.L) hq2 (fun a => by rw [f_X11_readAtom_J182]; simp only [if_neg (show ¬ bI true = (0 : Int32) by decide)]; rfl) (by rw [hk2, if_pos (show nI (KN T z b5) = (60 : Int32) from (qe5 60 (by omega)).mpr c60)])
            · rw [decide_eq_false c60, if_pos (show bI false = 0 from rfl)] at hq2
              rw [if_neg c60] at Q6
              obtain ⟨a7, e8, qf7, q715, Q7⟩ := t_sign Q6 (c := 62) (by decide)
              have E7 := E6.qf qf7
              have hk3 := hk2.trans (if_neg (show ¬ nI (KN T z b5) = (60 : Int32) from fun y => c60 ((qe5 60 (by omega)).mp y)))
              by_cases c62 : KN T z b5 = 62
              · rw [decide_eq_true c62] at e8
                rw [if_pos c62] at Q7
                exact cmp 9 (bI false) (2002 : Int32) a7 (Or.inr rfl) rfl (L5.2.1.gt (by omega) c62) Q7 E7 (((qL4.tr q5).tr qf6.L).tr qf7.L) (by rw [hq2, show (62 : Int32) = nI 62 from rfl, e8, Option.bind_some, if_neg (t1 a7)]) (fun a => by rw [f_X11_readAtom_J182]; simp only [if_pos (show bI false = (0 : Int32) from rfl)]; rfl) (by rw [hk3, if_pos (show nI (KN T z b5) = (62 : Int32) from (qe5 62 (by omega)).mpr c62)])
              · rw [decide_eq_false c62] at e8
                right
                refine ⟨a7, mst k5 (6, 1) 7 (nI b5), b5, ?_, ?_, q715, wr71, ((qL4.tr q5).tr qf6.L).tr qf7.L, f5.tw FW.wr⟩
                · rw [hq2, show (62 : Int32) = nI 62 from rfl, e8, Option.bind_some, if_pos (t0 a7)]; rfl
                · rw [hk3, if_neg (show ¬ nI (KN T z b5) = (62 : Int32) from fun y => c62 ((qe5 62 (by omega)).mp y))]
          · right
            refine ⟨a5, k5, x, ?_, ?_, g15, g7, qL4.tr q5, f5⟩
            · rw [hq1, e5]; rfl
            · rw [hk1, e6]; rfl
/-- conditions as deep as they come -/
theorem v_deep : ∀ d dp, dp + d = 8 → dp ≤ 6 → AP (f_X11_readAtomD d) (f_X3_readAtomD sh ln d) ln T z f cb dp (3 + 2 * (6 - dp)) := by
  intro d
  induction d with
  | zero => intro dp h1 h2; omega
  | succ d ih =>
    intro dp h1 h2
    have hAt : AP (f_X11_readAtom (f_X11_readCond (f_X11_readAllOf (f_X11_readAtomD d))) (f_X11_readAtomD d)) (fun μ v => f_X3_readAtom sh ln (fun μ v => f_X3_readAny sh ln (fun μ v => f_X3_readAll sh ln (f_X3_readAtomD sh ln d) μ v) μ v) (f_X3_readAtomD sh ln d) μ v) ln T z f cb dp (3 + 2 * (6 - dp)) := by
      refine v_atom' h2 (by omega) (fun hlt => ?_)
      have hA := ih (dp + 1) (by omega) (by omega)
      have hC := v_any' (sh := sh) (v_all' (sh := sh) hA (by omega)) (by omega)
      have e : 3 + 2 * (6 - (dp + 1)) + 1 + 1 = 3 + 2 * (6 - dp) := by omega
      rw [e] at hC
      exact ⟨hC, fun μq μk b s S M l h hl => hA μq μk b s S M l h (by omega)⟩
    exact hAt
theorem v_cond (h : LV ln μq μk T z b f cb s S M [] 0) : LVO (f_X11_readCondD 8 μq) (f_X3_readAnyD sh ln 8 μk (0 : Int32)) ln μq μk T z b f cb s S M [true] 0 := by
  have hC := v_any' (sh := sh) (v_all' (sh := sh) (v_deep (sh := sh) (ln := ln) (T := T) (z := z) (f := f) (cb := cb) 8 0 rfl (by omega)) (by omega)) (by omega)
  exact hC μq μk b s S M [] h (by decide)
end ATM
