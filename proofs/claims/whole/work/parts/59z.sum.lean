-- the law's text: sums
section SUM
variable {sh : Sh} {ln : Nat → Nat} {μq μk aq ak : Mm} {T : Nat → Nat} {z b b1 f cb s s1 dp : Nat} {S M S1 M1 : Nat → Nat} {l l' : List Bool}
theorem LVO.pre {fq fk : Option (Int32 × Mm)} (h : LVO fq fk ln aq ak T z b1 f cb s1 S1 M1 l' dp) (hb : b ≤ b1) (hs : s ≤ s1 ∧ s1 + b ≤ b1 + s) (hS : ∀ i, i < s → S1 i = S i ∧ M1 i = M i) (hq : QL μq aq) (hk : FL cb μk ak) : LVO fq fk ln μq μk T z b f cb s S M l' dp := by
  rcases h with ⟨x1, x2, b', s', S', M', e1, e2, g1, g2, g3, g4, g5, g6⟩ | ⟨x1, x2, x, e1, e2, g1, g2, g3, g4⟩
  · exact Or.inl ⟨x1, x2, b', s', S', M', e1, e2, by omega, g2, ⟨by omega, by omega⟩, fun i hi => ⟨(g4 i (by omega)).1.trans (hS i hi).1, (g4 i (by omega)).2.trans (hS i hi).2⟩, hq.tr g5, hk.tr g6⟩
  · exact Or.inr ⟨x1, x2, x, e1, e2, g1, g2, hq.tr g3, hk.tw g4⟩
theorem LVO.sub {fq fk fq' fk' : Option (Int32 × Mm)} (h : LVO fq fk ln μq μk T z b f cb s S M l' dp) (h1 : ∀ R, fq = some R → fq' = some R) (h2 : ∀ R, fk = some R → fk' = some R) : LVO fq' fk' ln μq μk T z b f cb s S M l' dp := by
  rcases h with ⟨x1, x2, b', s', S', M', e1, e2, g⟩ | ⟨x1, x2, x, e1, e2, g⟩
  · exact Or.inl ⟨x1, x2, b', s', S', M', h1 _ e1, h2 _ e2, g⟩
  · exact Or.inr ⟨x1, x2, x, h1 _ e1, h2 _ e2, g⟩
theorem KC.gt {c : Nat} (h : KC c ln μk T z b) {v : Nat} (hv : 0 < v) (hk : KN T z b = v) : b < z := by
  by_cases d : b < z
  · exact d
  · have := (KN_0 (h.t256 b)).mpr d
    omega
/-- the reference, ahead of the i-th part -/
noncomputable def sumQ (i : Nat) (μ : Mm) : Option (Int32 × Mm) := (f_X11_readPart μ).bind fun x => if x.1 = 0 then some ((0 : Int32), x.2) else (if i = 0 then Wh (fun z : Mm => f_X11_readSum_L9 z) x.2 else ((f_X11_emits x.2 (7 : Int32) (0 : Int32)).bind fun y => Wh (fun z : Mm => f_X11_readSum_L9 z) y))
theorem v_sumL {μq0 μk0 : Mm} {b0 s0 : Nat} {S0 M0 : Nat → Nat} (dp : Nat) (l : List Bool) (hl : l.length + 2 ≤ 40) : ∀ j i (μq μk : Mm) (b s : Nat) (S M : Nat → Nat), z - b = j → LV ln μq μk T z b f cb s S M (if i = 0 then l else false :: l) dp → i ≤ s → (i = 0 ∨ s + 2 ≤ b) →
    b0 ≤ b → s0 ≤ s → (if i = 0 then s + b0 ≤ b + s0 else s + 1 + b0 ≤ b + s0) → (∀ i, i < s0 → S i = S0 i ∧ M i = M0 i) → QL μq0 μq → FL cb μk0 μk →
    LVO (sumQ i μq) (Wh (fun z : Mm × Int32 => f_X3_readSum_L2 sh ln z.1 z.2) (μk, nI i)) ln μq0 μk0 T z b0 f cb s0 S0 M0 (false :: l) dp := by
  intro j
  induction j using Nat.strongRecOn with
  | _ j ih =>
  intro i μq μk b s S M hj h his hsl hb0 hs0 hsl0 hS0 hq0 hk0
  obtain ⟨hQ, hK, hE, hEk, hP⟩ := h
  have hT := hQ.1.2.2.1
  have hz4 := hQ.1.2.1
  have hs4 : s + 1 ≤ b ∧ b ≤ 400 := ⟨hP.1, hP.2.1⟩
  have hfs : f ≤ s := hP.2.2.1
  have hcf : cb ≤ f + 36 := hP.2.2.2.1
  have g400 : ¬ (400 : Int32) ≤ nI i := by rw [show (400 : Int32) = nI 400 from rfl, q_le (by omega) (by omega)]; omega
  have hlen : (if i = 0 then l else false :: l).length + 1 ≤ 40 := by
    by_cases c : i = 0
    · rw [if_pos c]; omega
    · rw [if_neg c, List.length_cons]; omega
  rcases v_part (sh := sh) ⟨hQ, hK, hE, hEk, hP⟩ hlen with ⟨x, m, a1, v, e1, e2, hbz, hv, Q1, E1, P1, l1, hv2⟩ | ⟨a1, e1, e2, q15, l1⟩
  · have hnx := nx_ok (T := T) hbz
    have hv1 : ¬ nI v = (-1 : Int32) := by
      intro e
      have h1 : (-1 : Int32) < nI 0 := by decide
      have h2 : nI 0 ≤ nI v := nI_le (by omega) (by omega)
      rw [e] at h2
      exact absurd (Int32.lt_of_lt_of_le h1 h2) Int32.lt_irrefl
    obtain ⟨k1, e3, EK1, K1, F1⟩ := k_add (sh := sh) hEk hfs (by omega) hK x m (nI v) (by rw [hv])
    obtain ⟨k2, e4, ks2, K2⟩ := k_step1 (sh := sh) K1 hbz
    have EK2 := EK1.ks ks2
    have hclass : f_X3_readSum_L2 sh ln μk (nI i) = (if nI i ≤ 0 then if (k2 (6, 1) 8) = (43 : Int32) then (f_X8_step_1 sh ln k2).bind fun x62 => some (.inl (x62, (nI i + (1 : Int32)))) else (Option.map Sum.inr (α := Int32 × Mm) (some ((1 : Int32), k2))) else ((f_X3_add sh ln k2 (2000 : Int32)).bind fun x46 => if (x46.2 (6, 1) 8) = (43 : Int32) then (f_X8_step_1 sh ln x46.2).bind fun x62 => some (.inl (x62, (nI i + (1 : Int32)))) else (Option.map Sum.inr (α := Int32 × Mm) (some ((1 : Int32), x46.2))))) := by
      rw [f_X3_readSum_L2, if_neg g400, e2, Option.bind_some, if_neg hv1, e3, Option.bind_some]
      show ((f_X8_step_1 sh ln k1).bind _) = _
      rw [e4, Option.bind_some]
    have qi : (nI i ≤ (0 : Int32)) = (i ≤ 0) := q_le (b := 0) (by omega) (by omega)
    -- behind the part (and the sign that adds it)
    have tail : ∀ (a3 k3 : Mm) (s3 : Nat) (S3 M3 : Nat → Nat), LV ln a3 k3 T z (nx T z b) f cb s3 S3 M3 (false :: l) dp → s < s3 → s3 + b0 ≤ nx T z b + s0 → (∀ i, i < s → S3 i = S i ∧ M3 i = M i) → QL μq a3 → FL cb μk k3 →
        (∀ R, Wh (fun z : Mm => f_X11_readSum_L9 z) a3 = some R → sumQ i μq = some R) → (∀ R, f_X3_readSum_L2 sh ln μk (nI i) = some R ↔ (if (k3 (6, 1) 8) = (43 : Int32) then (f_X8_step_1 sh ln k3).bind fun x62 => some (.inl (x62, (nI i + (1 : Int32)))) else (Option.map Sum.inr (α := Int32 × Mm) (some ((1 : Int32), k3)))) = some R) →
        LVO (sumQ i μq) (Wh (fun z : Mm × Int32 => f_X3_readSum_L2 sh ln z.1 z.2) (μk, nI i)) ln μq0 μk0 T z b0 f cb s0 S0 M0 (false :: l) dp := by
      intro a3 k3 s3 S3 M3 hL3 hs3 hsl3 hS3 hq3 hk3 hqq hkk
      obtain ⟨Q3, K3, E3, EK3, P3⟩ := hL3
      have hS30 : ∀ i, i < s0 → S3 i = S0 i ∧ M3 i = M0 i := fun i hi => ⟨(hS3 i (by omega)).1.trans (hS0 i hi).1, (hS3 i (by omega)).2.trans (hS0 i hi).2⟩
      have hlt := KN_lt (z := z) (hT (nx T z b))
      have qe : (nI (KN T z (nx T z b)) = (43 : Int32)) = (KN T z (nx T z b) = 43) := q_eq (b := 43) (by omega) (by omega)
      obtain ⟨a4, e5, qf4, q415, Q4⟩ := t_sign Q3 (c := 43) (by decide)
      by_cases c : KN T z (nx T z b) = 43
      · rw [decide_eq_true c] at e5
        rw [if_pos c] at Q4
        have hb1z := K3.gt (by omega) c
        have hnx2 := nx_ok (T := T) hb1z
        obtain ⟨k4, e6, ks4, K4⟩ := k_step1 (sh := sh) K3 hb1z
        have hL4 : LV ln a4 k4 T z (nx T z (nx T z b)) f cb s3 S3 M3 (if i + 1 = 0 then l else false :: l) dp := ⟨Q4, K4, E3.qf qf4, EK3.ks ks4, by rw [if_neg (by omega)]; exact P3.mono (by omega) (by omega)⟩
        have hI := ih (z - nx T z (nx T z b)) (by omega) (i + 1) a4 k4 (nx T z (nx T z b)) s3 S3 M3 rfl hL4 (by omega) (Or.inr (by have := P3.1; omega)) (by omega) (by omega) (by rw [if_neg (by omega)]; omega) hS30 (hq0.tr (hq3.tr qf4.L)) (hk0.tr (hk3.tr ks4.L))
        refine hI.sub (fun R hR => hqq R ?_) (fun R hR => ?_)
        · have hsg : f_X11_readSum_L9 a3 = ((f_X11_readPart a4).bind fun x19 => if x19.1 = 0 then Option.map Sum.inr (α := Int32 × Mm) (some ((0 : Int32), x19.2)) else ((f_X11_emits x19.2 (7 : Int32) (0 : Int32)).bind fun x31 => some (.inl (x31)))) := by
            rw [f_X11_readSum_L9, show (43 : Int32) = nI 43 from rfl, e5, Option.bind_some, if_neg (show ¬ (bI true, a4).1 = 0 by show ¬ bI true = 0; decide)]
          unfold sumQ at hR
          revert hR
          cases hp : f_X11_readPart a4 with
          | none => intro hR; cases hR
          | some y =>
            intro hR
            rw [Option.bind_some] at hR
            rw [hp, Option.bind_some] at hsg
            by_cases cy : y.1 = 0
            · rw [if_pos cy] at hR hsg
              exact Wh_end (hsg.trans (by rw [hR]; rfl))
            · rw [if_neg cy, if_neg (by omega)] at hR
              rw [if_neg cy] at hsg
              revert hR
              cases he : f_X11_emits y.2 (7 : Int32) (0 : Int32) with
              | none => intro hR; cases hR
              | some w =>
                intro hR
                rw [he, Option.bind_some] at hsg
                exact Wh_step hsg hR
        · refine Wh_step (s' := (k4, nI (i + 1))) ?_ hR
          show f_X3_readSum_L2 sh ln μk (nI i) = _
          rw [hkk, K3.kind, if_pos (qe.mpr c), e6, Option.bind_some, show (1 : Int32) = nI 1 from rfl, nI_add]
      · rw [decide_eq_false c] at e5
        rw [if_neg c] at Q4
        left
        refine ⟨a4, k3, nx T z b, s3, S3, M3, hqq _ (Wh_end ?_), Wh_end ?_, by omega, ⟨Q4, K3, E3.qf qf4, EK3, P3⟩, ⟨by omega, hsl3⟩, hS30, hq0.tr (hq3.tr qf4.L), hk0.tr hk3⟩
        · rw [f_X11_readSum_L9, show (43 : Int32) = nI 43 from rfl, e5, Option.bind_some, if_pos (show (bI false, a4).1 = 0 from rfl)]
          rfl
        · show f_X3_readSum_L2 sh ln μk (nI i) = _
          rw [hkk, K3.kind, if_neg (fun y => c (qe.mp y))]
          rfl
    by_cases c : i = 0
    · subst c
      refine tail a1 k2 (s + 1) _ _ ⟨Q1, K2, E1, EK2, P1⟩ (by omega) (by rw [if_pos rfl] at hsl0; omega) (fun i hi => ⟨updN_lt hi, updN_lt hi⟩) l1 (F1.tr ks2.L) (fun R hR => ?_) (fun R => ?_)
      · unfold sumQ
        rw [e1, Option.bind_some, if_neg (show ¬ (nI 1, a1).1 = 0 by show ¬ nI 1 = 0; decide), if_pos rfl]
        exact hR
      · rw [hclass, if_pos (qi.mpr (Nat.le_refl 0))]
    · have P1' : PU f cb (s + 1) (updN S s x) (updN M s m) (false :: false :: l) (nx T z b) := by rw [if_neg c] at P1; exact P1
      have hsb := hsl.resolve_left c
      obtain ⟨a2, e5, E2, Q2, l2, _⟩ := q_emits E1 (by omega) Q1 7 0 (7 : Int32) (0 : Int32) rfl (fun h => absurd h (by decide))
      obtain ⟨k3, e6, EK3, K3, F3⟩ := k_add (sh := sh) EK2 (by omega) (by omega) K2 7 0 (2000 : Int32) rfl
      have P2 := P1'.emit (x := 7) (m := 0) (l2 := false :: l) (b' := nx T z b) (by omega) (by omega) rfl (by rw [List.length_cons]; omega) (by omega) (by omega)
      refine tail a2 k3 (s + 1 + 1) _ _ ⟨Q2, K3, E2, EK3, P2⟩ (by omega) (by rw [if_neg c] at hsl0; omega) (fun i hi => ⟨(updN_lt (show i < s + 1 by omega)).trans (updN_lt hi), (updN_lt (show i < s + 1 by omega)).trans (updN_lt hi)⟩) (l1.tr l2) ((F1.tr ks2.L).tr F3) (fun R hR => ?_) (fun R => ?_)
      · unfold sumQ
        rw [e1, Option.bind_some, if_neg (show ¬ (nI 1, a1).1 = 0 by show ¬ nI 1 = 0; decide), if_neg c]
        show ((f_X11_emits a1 (7 : Int32) (0 : Int32)).bind _) = _
        rw [e5, Option.bind_some]
        exact hR
      · rw [hclass, if_neg (fun y => c (by have := qi.mp y; omega)), e6, Option.bind_some]
  · right
    refine ⟨a1, mst μk (6, 1) 7 (nI b), b, ?_, Wh_end ?_, q15, wr71, hq0.tr l1, hk0.tw FW.wr⟩
    · unfold sumQ
      rw [e1]; rfl
    · show f_X3_readSum_L2 sh ln μk (nI i) = _
      rw [f_X3_readSum_L2, if_neg g400, e2, Option.bind_some, if_pos (show -nI 1 = (-1 : Int32) from rfl), hK.beg, f_X8_wrongAt_1]
      rfl
theorem v_sum (h : LV ln μq μk T z b f cb s S M l dp) (hl : l.length + 2 ≤ 40) : LVO (f_X11_readSum μq) (f_X3_readSum sh ln μk) ln μq μk T z b f cb s S M (false :: l) dp := by
  have := v_sumL (sh := sh) (μq0 := μq) (μk0 := μk) (b0 := b) (s0 := s) (S0 := S) (M0 := M) dp l hl (z - b) 0 μq μk b s S M rfl h (by omega) (Or.inl rfl) (Nat.le_refl _) (Nat.le_refl _) (by rw [if_pos rfl]; omega) (fun _ _ => ⟨rfl, rfl⟩) QL.rf FL.rf
  refine this.sub (fun R hR => ?_) (fun R hR => hR)
  unfold sumQ at hR
  exact hR
end SUM
