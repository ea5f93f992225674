-- the law's text: lines
/-- the reference's lines so far -/
def LR (μ : Mm) (k : Nat) (A F : Nat → Nat) : Prop := ∀ i, i < k → μ (1, 0) (6278 + 3 * i) = nI (A i) ∧ μ (1, 0) (6278 + 3 * i + 1) = nI (F i) ∧ μ (1, 0) (6278 + 3 * i + 2) = nI (F (i + 1))
/-- the class's code so far -/
def LC (μ : Mm) (k : Nat) (S M A F B : Nat → Nat) : Prop := ∀ i, i < k → B (i + 1) = B i + (F (i + 1) - F i) + (if F i = F (i + 1) then 1 else 0) + 2 ∧ (∀ t, t < F (i + 1) - F i → μ (10, 0) (B i + t) = nI (cs (S (F i + t)) (M (F i + t)))) ∧
  (F i = F (i + 1) → μ (10, 0) (B i) = nI 1) ∧ μ (10, 0) (B i + (F (i + 1) - F i) + (if F i = F (i + 1) then 1 else 0)) = nI (A i) ∧ μ (10, 0) (B i + (F (i + 1) - F i) + (if F i = F (i + 1) then 1 else 0) + 1) = nI 2006
/-- what is so of the lines -/
def LPk (k s : Nat) (S M A F B : Nat → Nat) (b : Nat) : Prop := s ≤ b ∧ b ≤ 400 ∧ k ≤ 12 ∧ F 0 = 0 ∧ F k = s ∧ B 0 = 0 ∧ B k ≤ s + 3 * k ∧ (∀ i, i ≤ k → F i ≤ s ∧ B i ≤ B k) ∧ (∀ i, i < k → A i ≤ 999 ∧ F i ≤ F (i + 1)) ∧ (∀ i, i < s → S i ≤ 12 ∧ M i ≤ 999) ∧
  ∀ i, i < k → tyS S (F i) (F (i + 1) - F i) = some (if F i = F (i + 1) then [] else [true]) ∧ ∀ t, t ≤ F (i + 1) - F i → ∃ l, tyS S (F i) t = some l ∧ l.length ≤ 40
def EQ' (μ : Mm) (s : Nat) (S M : Nat → Nat) : Prop := μ (0, 0) 21 = nI s ∧ ∀ i, i < s → μ (1, 0) (6314 + 2 * i) = nI (S i) ∧ (S i = 6 → μ (1, 0) (6315 + 2 * i) = nI (M i))
/-- k lines are read, both stand at b -/
def LT (ln : Nat → Nat) (μq μk : Mm) (T : Nat → Nat) (z b k s : Nat) (S M A F B : Nat → Nat) : Prop := QC μq T z b ∧ KC 1 ln μk T z b ∧ EQ' μq s S M ∧ μk (6, 1) 12 = nI (B k) ∧ LR μq k A F ∧ LC μk k S M A F B ∧ LPk k s S M A F B b
/-- what the law's text changes -/
def QW (μ a : Mm) : Prop := (∀ q : Ky, q ≠ (0, 0) → q ≠ (1, 0) → a q = μ q) ∧ (∀ i, i ≠ 13 → i ≠ 15 → i ≠ 16 → i ≠ 21 → a (0, 0) i = μ (0, 0) i) ∧ ∀ i, i < 6277 → a (1, 0) i = μ (1, 0) i
def FV (μ a : Mm) : Prop := FW μ a ∧ ∀ i, i < 4 ∨ i = 5 ∨ i = 6 ∨ i = 7 ∨ i = 11 → a (6, 1) i = μ (6, 1) i
theorem QW.rf {μ : Mm} : QW μ μ := ⟨fun _ _ _ => rfl, fun _ _ _ _ _ => rfl, fun _ _ => rfl⟩
theorem QW.tr {μ a b : Mm} (h : QW μ a) (h2 : QW a b) : QW μ b := ⟨fun q g0 g1 => (h2.1 q g0 g1).trans (h.1 q g0 g1), fun i g1 g2 g3 g4 => (h2.2.1 i g1 g2 g3 g4).trans (h.2.1 i g1 g2 g3 g4), fun i hi => (h2.2.2 i hi).trans (h.2.2 i hi)⟩
theorem QL.W {μ a : Mm} (h : QL μ a) : QW μ a := ⟨h.1, h.2.1, fun i hi => h.2.2 i (by omega)⟩
theorem FV.rf {μ : Mm} : FV μ μ := ⟨fun _ _ _ => rfl, fun _ _ => rfl⟩
theorem FV.tr {μ a b : Mm} (h : FV μ a) (h2 : FV a b) : FV μ b := ⟨fun q g0 g1 => (h2.1 q g0 g1).trans (h.1 q g0 g1), fun i hi => (h2.2 i hi).trans (h.2 i hi)⟩
theorem FV.tw {μ a b : Mm} (h : FV μ a) (h2 : FW a b) : FW μ b := fun q g0 g1 => (h2 q g0 g1).trans (h.1 q g0 g1)
theorem FL.V {cb : Nat} {μ a : Mm} (h : FL cb μ a) : FV μ a := ⟨h.1, h.2.1⟩
theorem KS.V {μ a : Mm} (h : KS 1 μ a) : FV μ a := (h.L (cb := 0)).V
/-- one line more, or both tell the same place -/
def LLO (fq fk : Option (Int32 × Mm)) (ln : Nat → Nat) (μq μk : Mm) (T : Nat → Nat) (z b k : Nat) : Prop :=
  (∃ aq ak b' s' S' M' A' F' B', fq = some (nI 1, aq) ∧ fk = some (nI 1, ak) ∧ b < b' ∧ LT ln aq ak T z b' k s' S' M' A' F' B' ∧ QW μq aq ∧ FV μk ak) ∨
  (∃ aq ak x, fq = some (nI 0, aq) ∧ fk = some (nI 0, ak) ∧ aq (0, 0) 15 = nI x ∧ ak (6, 1) 7 = nI x ∧ QW μq aq ∧ FW μk ak)
section LWL
variable {sh : Sh} {ln : Nat → Nat} {μ a μq μk aq ak : Mm} {T : Nat → Nat} {z b b1 k s : Nat} {S M A F B : Nat → Nat}
theorem k_addR {n : Nat} (h : μ (6, 1) 12 = nI n) (hn : n < 512) (hK : KC 1 ln μ T z b) (v : Int32) : ∃ a, f_X3_add sh ln μ v = some (nI 1, a) ∧ a (6, 1) 12 = nI (n + 1) ∧ a (10, 0) n = v ∧ (∀ i, i ≠ n → a (10, 0) i = μ (10, 0) i) ∧ KC 1 ln a T z b ∧ FV μ a := by
  obtain ⟨m1, hm1⟩ : ∃ m1, m1 = mst μ (10, 0) n v := ⟨_, rfl⟩
  have e12 : m1 (6, 1) 12 = nI n := by rw [hm1, mst_row, mrow_neA (by omega)]; exact h
  obtain ⟨m2, hm2⟩ : ∃ m2, m2 = mst m1 (6, 1) 12 (nI (n + 1)) := ⟨_, rfl⟩
  have key : f_X3_add sh ln μ v = some (nI 1, m2) := by
    rw [f_X3_add, h, if_neg (by rw [show (512 : Int32) = nI 512 from rfl, q_le (by omega) (by omega)]; omega), q_ck (by omega) hn, q_cl (by omega), ← hm1, e12, Option.bind_some, show (1 : Int32) = nI 1 from rfl, nI_add, ← hm2]
  have r6 : ∀ i, m2 (6, 1) i = if i = 12 then nI (n + 1) else μ (6, 1) i := fun i => by rw [hm2, mst_row, mrow_self, q_upd, hm1, mst_row, mrow_neA (by omega)]
  have r10 : ∀ i, m2 (10, 0) i = if i = n then v else μ (10, 0) i := fun i => by rw [hm2, mst_row, mrow_neA (by omega), hm1, mst_row, mrow_self, q_upd]
  have rk : ∀ q : Ky, q ≠ (6, 1) → q ≠ (10, 0) → m2 q = μ q := fun q g6 g10 => by rw [hm2, mst_row, mrow_ne g6, hm1, mst_row, mrow_ne g10]
  exact ⟨m2, key, by rw [r6, if_pos rfl], by rw [r10, if_pos rfl], fun i hi => by rw [r10, if_neg hi], hK.to (fun q g6 gq => rk q g6 (fun y => by rw [y] at gq; simp at gq)) (fun i _ _ _ hi => by rw [r6, if_neg (by omega)]), rk, fun i hi => by rw [r6, if_neg (by omega)]⟩
theorem EQ'.qw (h : EQ' μ s S M) (h21 : a (0, 0) 21 = μ (0, 0) 21) (h1 : ∀ i, 6314 ≤ i → a (1, 0) i = μ (1, 0) i) : EQ' a s S M := ⟨by rw [h21]; exact h.1, fun i hi => by rw [h1 _ (by omega), h1 _ (by omega)]; exact h.2 i hi⟩
theorem LR.al (h : LR μ k A F) (hk : k ≤ 12) (e : ∀ i, 6278 ≤ i → i < 6278 + 3 * k → a (1, 0) i = μ (1, 0) i) : LR a k A F := fun i hi => by
  rw [e _ (by omega) (by omega), e _ (by omega) (by omega), e _ (by omega) (by omega)]
  exact h i hi
/-- a line is closed: its steps end at s', its amount follows -/
theorem lt_close {b0 b' s' am c : Nat} {S' M' : Nat → Nat} (hP : LPk k s S M A F B b0) (hk : k < 12) (hC : LC μk k S M A F B) (hR : LR aq k A F)
    (hQ : QC aq T z b') (hK : KC 1 ln ak T z b') (hE : EQ' aq s' S' M') (hss : s ≤ s') (hsb : s' ≤ b') (hb4 : b' ≤ 400) (hS : ∀ i, i < s → S' i = S i ∧ M' i = M i) (hS2 : ∀ i, i < s' → S' i ≤ 12 ∧ M' i ≤ 999) (ham : am ≤ 999)
    (h0 : aq (1, 0) (6278 + 3 * k) = nI am) (h1 : aq (1, 0) (6278 + 3 * k + 1) = nI s) (h2 : aq (1, 0) (6278 + 3 * k + 2) = nI s')
    (hc : c = if s = s' then 1 else 0) (h12 : ak (6, 1) 12 = nI (B k + (s' - s) + c + 2)) (hold : ∀ i, i < B k → ak (10, 0) i = μk (10, 0) i)
    (hcode : ∀ t, t < s' - s → ak (10, 0) (B k + t) = nI (cs (S' (s + t)) (M' (s + t)))) (hone : s = s' → ak (10, 0) (B k) = nI 1) (ha : ak (10, 0) (B k + (s' - s) + c) = nI am) (hact : ak (10, 0) (B k + (s' - s) + c + 1) = nI 2006)
    (hty : tyS S' s (s' - s) = some (if s = s' then [] else [true])) (htl : ∀ t, t ≤ s' - s → ∃ l, tyS S' s t = some l ∧ l.length ≤ 40) :
    ∃ A' F' B', LT ln aq ak T z b' (k + 1) s' S' M' A' F' B' := by
  obtain ⟨p1, p2, p3, p4, p5, p6, p7, p8, p9, p10, p11⟩ := hP
  have hc1 : c ≤ 1 := by rw [hc]; split <;> omega
  have fF : ∀ i, i ≤ k → updN F (k + 1) s' i = F i := fun i hi => if_neg (by omega)
  have fFk : updN F (k + 1) s' (k + 1) = s' := if_pos rfl
  have fB : ∀ i, i ≤ k → updN B (k + 1) (B k + (s' - s) + c + 2) i = B i := fun i hi => if_neg (by omega)
  have fBk : updN B (k + 1) (B k + (s' - s) + c + 2) (k + 1) = B k + (s' - s) + c + 2 := if_pos rfl
  have fA : ∀ i, i < k → updN A k am i = A i := fun i hi => if_neg (by omega)
  have fAk : updN A k am k = am := if_pos rfl
  refine ⟨updN A k am, updN F (k + 1) s', updN B (k + 1) (B k + (s' - s) + c + 2), hQ, hK, hE, by rw [fBk]; exact h12, fun i hi => ?_, fun i hi => ?_, hsb, hb4, by omega, by rw [fF 0 (by omega)]; exact p4, fFk, by rw [fB 0 (by omega)]; exact p6, by rw [fBk]; omega, fun i hi => ?_, fun i hi => ?_, hS2, fun i hi => ?_⟩
  · by_cases e : i = k
    · subst e
      rw [fAk, fF i (by omega), fFk, p5]
      exact ⟨h0, h1, h2⟩
    · rw [fA i (by omega), fF i (by omega), fF (i + 1) (by omega)]
      exact hR i (by omega)
  · by_cases e : i = k
    · subst e
      rw [fAk, fF i (by omega), fFk, p5, fB i (by omega), fBk, ← hc]
      exact ⟨rfl, hcode, hone, ha, hact⟩
    · have hik : i < k := by omega
      obtain ⟨c1, c2, c3, c4, c5⟩ := hC i hik
      have hb1 := (p8 (i + 1) (by omega)).2
      have hf1 := (p8 (i + 1) (by omega)).1
      rw [fA i hik, fF i (by omega), fF (i + 1) (by omega), fB i (by omega), fB (i + 1) (by omega)]
      refine ⟨c1, fun t ht => ?_, fun ee => ?_, ?_, ?_⟩
      · rw [hold _ (by omega), (hS _ (by omega)).1, (hS _ (by omega)).2]
        exact c2 t ht
      · rw [hold _ (by omega)]
        exact c3 ee
      · rw [hold _ (by omega)]
        exact c4
      · rw [hold _ (by omega)]
        exact c5
  · by_cases e : i = k + 1
    · subst e
      rw [fFk, fBk]
      omega
    · have := p8 i (by omega)
      rw [fF i (by omega), fB i (by omega), fBk]
      omega
  · by_cases e : i = k
    · subst e
      rw [fAk, fF i (by omega), fFk, p5]
      exact ⟨ham, hss⟩
    · rw [fA i (by omega), fF i (by omega), fF (i + 1) (by omega)]
      exact p9 i (by omega)
  · by_cases e : i = k
    · subst e
      rw [fF i (by omega), fFk, p5]
      exact ⟨hty, htl⟩
    · have hf1 := (p8 (i + 1) (by omega)).1
      have hfi := (p9 i (by omega)).2
      rw [fF i (by omega), fF (i + 1) (by omega)]
      have ec : ∀ t, t ≤ F (i + 1) - F i → tyS S' (F i) t = tyS S (F i) t := fun t ht => tyS_congr t (fun x hx => (hS x (by omega)).1)
      refine ⟨by rw [ec _ (Nat.le_refl _)]; exact (p11 i (by omega)).1, fun t ht => by rw [ec t ht]; exact (p11 i (by omega)).2 t ht⟩
theorem ckL {X : Type} {i : Nat} (h : i < 7114) (x : Option X) : ck 7114 (nI i) x = x := q_ck (by omega) h
/-- a line of the law, behind its letters -/
theorem v_lawline (h : LT ln μq μk T z b k s S M A F B) (hk : k < 12) {a1 : Mm} (hqf : QF μq a1) (h15 : a1 (0, 0) 15 = nI b) (hW : f_X11_isWord 13 a1 = some (bI (decide (KN T z b = 309)))) (hy : b < z ∧ isLe (T b) = true → QC a1 T z (nx T z b)) :
    LLO (f_X11_readLawLine a1 (nI k)) (f_X3_readLine sh ln μk) ln μq μk T z b (k + 1) := by
  obtain ⟨hQ, hK, hE, h12, hR, hC, hP⟩ := h
  have hT := hQ.1.2.2.1
  have hz4 := hQ.1.2.1
  have hp := hP
  obtain ⟨p1, p2, p3, p4, p5, p6, p7, p8, p9, p10, p11⟩ := hp
  have htk := k_take1 (sh := sh) hK (v := 309) (by omega)
  have u1 : ∀ (a : Mm), ¬ ((nI 1, a) : Int32 × Mm).1 = 0 := fun a => by show ¬ nI 1 = 0; decide
  by_cases c1 : KN T z b = 309
  · have hbw := (KN_w (z := z) (hT b) (w := 13) (by omega)).mp c1
    have Q1 := hy ⟨hbw.1, hbw.2.1⟩
    have hnx := nx_ok (T := T) hbw.1
    obtain ⟨b1, hb1⟩ : ∃ b1, b1 = nx T z b := ⟨_, rfl⟩
    obtain ⟨k1, e1, ks1, K1⟩ := htk.1 c1
    rw [← hb1] at Q1 K1 hnx
    obtain ⟨a2, qf2, q215, qy, qn⟩ := t_number Q1 (0 : Int32) (999 : Int32)
    have hi := okN_lit (T := T) (z := z) (b := b1) (lo := 0) (hi := 999) (fun c => nmv_le c) (hT b1) (by omega)
    have htn := k_takeN1 (sh := sh) K1 (0 : Int32) (999 : Int32)
    have i0 : (6278 : Int32) + (3 : Int32) * nI k = nI (6278 + 3 * k) := by rw [show (3 : Int32) = nI 3 from rfl, pk_mul, show (6278 : Int32) = nI 6278 from rfl, nI_add]
    have i1 : nI (6278 + 3 * k) + (1 : Int32) = nI (6278 + 3 * k + 1) := by rw [show (1 : Int32) = nI 1 from rfl, nI_add]
    have i2 : nI (6278 + 3 * k) + (2 : Int32) = nI (6278 + 3 * k + 2) := by rw [show (2 : Int32) = nI 2 from rfl, nI_add]
    have hq1 : ∀ v a2, f_X11_number a1 (0 : Int32) (999 : Int32) = some (v, a2) → f_X11_readLawLine a1 (nI k) = (if 0 ≤ v then ((f_X11_passes 14 (mst (mst (mst a2 (1, 0) (6278 + 3 * k) v) (1, 0) (6278 + 3 * k + 1) (a2 (0, 0) 21)) (0, 0) 16 (0 : Int32))).bind fun x66 => if x66.1 = 0 then some ((1 : Int32), (mst x66.2 (1, 0) (6278 + 3 * k + 2) (x66.2 (0, 0) 21))) else ((f_X11_readCondD 8 x66.2).bind fun x73 => if x73.1 = 0 then some ((0 : Int32), x73.2) else some ((1 : Int32), (mst x73.2 (1, 0) (6278 + 3 * k + 2) (x73.2 (0, 0) 21))))) else some ((0 : Int32), mst a2 (1, 0) (6278 + 3 * k) v)) := by
      intro v a2 e2
      have w1 : (mst a2 (1, 0) (6278 + 3 * k) v) (1, 0) (6278 + 3 * k) = v := by rw [mst_row, mrow_self, q_upd, if_pos rfl]
      have w21 : (mst a2 (1, 0) (6278 + 3 * k) v) (0, 0) 21 = a2 (0, 0) 21 := by rw [mst_row, mrow_neA (by omega)]
      rw [f_X11_readLawLine, hW, decide_eq_true c1, Option.bind_some, if_neg (show ¬ bI true = 0 by decide), e2, Option.bind_some, i0, ckL (by omega), ckL (by omega), q_cl (by omega)]
      show (if 0 ≤ (mst a2 (1, 0) (6278 + 3 * k) v) (1, 0) (6278 + 3 * k) then _ else some ((0 : Int32), mst a2 (1, 0) (6278 + 3 * k) v)) = _
      rw [w1]
      by_cases d : 0 ≤ v
      · rw [if_pos d, if_pos d, i1, ckL (by omega), q_cl (by omega), i2]
        show ((f_X11_passes 14 (mst (mst (mst a2 (1, 0) (6278 + 3 * k) v) (1, 0) (6278 + 3 * k + 1) ((mst a2 (1, 0) (6278 + 3 * k) v) (0, 0) 21)) (0, 0) 16 (0 : Int32))).bind _) = _
        rw [w21, q_cl (by omega)]
        simp only [ckL (show 6278 + 3 * k + 2 < 7114 by omega)]
      · rw [if_neg d, if_neg d]
    by_cases c2 : okN T z b1 (0 : Int32) (999 : Int32)
    · obtain ⟨qe2, Q2⟩ := qy c2
      obtain ⟨k2, e2, ks2, K2, n2⟩ := htn.1 c2
      obtain ⟨am, ham⟩ : ∃ am, am = nmv T z b1 := ⟨_, rfl⟩
      have ham9 := (hi.mp c2).2.2
      rw [← ham] at qe2 n2 ham9
      have hb1z := ((KN_2 (z := z) (hT b1)).mp c2.1).1
      have hnx1 := nx_ok (T := T) hb1z
      obtain ⟨b2, hb2⟩ : ∃ b2, b2 = nx T z b1 := ⟨_, rfl⟩
      rw [← hb2] at Q2 K2 hnx1
      have hqq := hq1 _ _ qe2
      rw [if_pos (show (0 : Int32) ≤ nI am from nI_le (a := 0) (by omega) (by omega))] at hqq
      -- the reference's row, so far
      have f12 : QF μq a2 := hqf.tr qf2
      have e21 : a2 (0, 0) 21 = nI s := by rw [f12.2 21 (by omega) (by omega)]; exact hE.1
      obtain ⟨a3, ha3⟩ : ∃ a3, a3 = mst (mst (mst a2 (1, 0) (6278 + 3 * k) (nI am)) (1, 0) (6278 + 3 * k + 1) (a2 (0, 0) 21)) (0, 0) 16 (0 : Int32) := ⟨_, rfl⟩
      have r31 : ∀ i, a3 (1, 0) i = if i = 6278 + 3 * k + 1 then nI s else if i = 6278 + 3 * k then nI am else μq (1, 0) i := fun i => by
        rw [ha3, mst_row, mrow_neA (by omega), mst_row, mrow_self, q_upd, mst_row, mrow_self, q_upd, e21, f12.k (by omega)]
      have r30 : ∀ i, a3 (0, 0) i = if i = 16 then nI 0 else a2 (0, 0) i := fun i => by
        rw [ha3, mst_row, mrow_self, q_upd, mst_row, mrow_neA (by omega), mst_row, mrow_neA (by omega)]
        rfl
      have r3k : ∀ q : Ky, q ≠ (0, 0) → q ≠ (1, 0) → a3 q = μq q := fun q g0 g1 => by rw [ha3, mst_row, mrow_ne g0, mst_row, mrow_ne g1, mst_row, mrow_ne g1, f12.1 q g0]
      have Q3 : QC a3 T z b2 := Q2.al (by rw [r30]; rfl) (by rw [r30]; rfl) (by rw [ha3, mst_row, mrow_neA (by omega), mst_row, mrow_neA (by omega), mst_row, mrow_neA (by omega)])
      have E3 : EQ a3 s S M 0 := ⟨by rw [r30]; exact e21, by rw [r30]; rfl, fun i hi => by
        rw [r31, r31, if_neg (by omega), if_neg (by omega), if_neg (by omega), if_neg (by omega)]
        exact hE.2 i hi⟩
      have w3 : QW μq a3 := ⟨r3k, fun i h13 h15 h16 h21 => by rw [r30, if_neg h16]; exact f12.2 i h13 h15, fun i hi => by rw [r31, if_neg (by omega), if_neg (by omega)]⟩
      have hkk : f_X3_readLine sh ln μk = (if (k2 (6, 1) 8) = (310 : Int32) then (f_X8_step_1 sh ln k2).bind fun x41 => (f_X3_readAnyD sh ln 8 x41 (0 : Int32)).bind fun x46 => if x46.1 = 0 then some ((0 : Int32), x46.2) else ((f_X3_add sh ln x46.2 (nI am)).bind fun x62 => (f_X3_add sh ln x62.2 (2006 : Int32)).bind fun x70 => cb x70.1 (some (x70.1, x70.2))) else ((f_X3_add sh ln k2 (1 : Int32)).bind fun x56 => (f_X3_add sh ln x56.2 (nI am)).bind fun x62 => (f_X3_add sh ln x62.2 (2006 : Int32)).bind fun x70 => cb x70.1 (some (x70.1, x70.2)))) := by
        rw [f_X3_readLine, show (309 : Int32) = nI 309 from rfl, e1, Option.bind_some, if_neg (u1 k1)]
        show ((f_X8_takeNumber_1 sh ln k1 (0 : Int32) (999 : Int32)).bind _) = _
        rw [e2, Option.bind_some, if_neg (u1 k2)]
        show (if (k2 (6, 1) 8) = (310 : Int32) then (f_X8_step_1 sh ln k2).bind fun x41 => (f_X3_readAnyD sh ln 8 x41 (0 : Int32)).bind fun x46 => if x46.1 = 0 then some ((0 : Int32), x46.2) else ((f_X3_add sh ln x46.2 (k1 (6, 1) 10)).bind fun x62 => (f_X3_add sh ln x62.2 (2006 : Int32)).bind fun x70 => cb x70.1 (some (x70.1, x70.2))) else ((f_X3_add sh ln k2 (1 : Int32)).bind fun x56 => (f_X3_add sh ln x56.2 (k1 (6, 1) 10)).bind fun x62 => (f_X3_add sh ln x62.2 (2006 : Int32)).bind fun x70 => cb x70.1 (some (x70.1, x70.2)))) = _
        rw [n2]
      have k12 : k2 (6, 1) 12 = nI (B k) := by rw [ks2.2 12 (by omega) (by omega) (by omega) (by omega), ks1.2 12 (by omega) (by omega) (by omega) (by omega)]; exact h12
      have k10 : k2 (10, 0) = μk (10, 0) := by rw [ks2.1 _ (by simp), ks1.1 _ (by simp)]
      have fv2 : FV μk k2 := ks1.V.tr ks2.V
      have hlt2 := KN_lt (z := z) (hT b2)
      have qe310 : (nI (KN T z b2) = (310 : Int32)) = (KN T z b2 = 310) := q_eq (b := 310) (by omega) (by omega)
      obtain ⟨a4, e4, qf4, q415, Q4⟩ := t_passes Q3 (w := 14) (by omega)
      rw [← ha3, e4, Option.bind_some] at hqq
      by_cases c3 : KN T z b2 = 310
      · rw [decide_eq_true c3, if_neg (show ¬ ((bI true, a4) : Int32 × Mm).1 = 0 by show ¬ bI true = 0; decide)] at hqq
        rw [if_pos c3] at Q4
        have hb2z := K2.gt (by omega) c3
        have hnx2 := nx_ok (T := T) hb2z
        obtain ⟨k3, e5, ks3, K3⟩ := k_step1 (sh := sh) K2 hb2z
        have L4 : LV ln a4 k3 T z (nx T z b2) s (B k) s S M [] 0 := by
          refine ⟨Q4, K3, E3.qf qf4, ⟨by rw [ks3.2 12 (by omega) (by omega) (by omega) (by omega), k12, Nat.sub_self]; rfl, fun t ht => by omega⟩, by omega, by omega, Nat.le_refl _, by omega, p10, by rw [Nat.sub_self]; rfl, fun t ht => ⟨[], by rw [show t = 0 by omega]; rfl, by decide⟩⟩
        rcases v_cond (sh := sh) L4 with ⟨a5, k5, b5, s5, S5, M5, e6, e7, hb5, L5, hs5, hS5, q5, f5⟩ | ⟨a5, k5, x, e6, e7, g15, g7, q5, f5⟩
        · obtain ⟨Q5, K5, E5, EK5, P5⟩ := L5
          obtain ⟨y1, y2, y3, y4, y5, y6, y7⟩ := P5
          have hss : s < s5 := by
            by_cases d : s < s5
            · exact d
            · have : s5 - s = 0 := by omega
              rw [this] at y6
              cases y6
          obtain ⟨k6, e8, g1, g2, g3, K6, fv6⟩ := k_addR (sh := sh) EK5.1 (by omega) K5 (nI am)
          obtain ⟨k7, e9, j1, j2, j3, K7, fv7⟩ := k_addR (sh := sh) g1 (by omega) K6 (2006 : Int32)
          obtain ⟨a6, ha6⟩ : ∃ a6, a6 = mst a5 (1, 0) (6278 + 3 * k + 2) (a5 (0, 0) 21) := ⟨_, rfl⟩
          have r6 : ∀ i, a6 (1, 0) i = if i = 6278 + 3 * k + 2 then nI s5 else a5 (1, 0) i := fun i => by rw [ha6, mst_row, mrow_self, q_upd, E5.1]
          have r60 : a6 (0, 0) = a5 (0, 0) := by rw [ha6, mst_row, mrow_neA (by omega)]
          have r5 : ∀ i, i < 6314 → a5 (1, 0) i = a3 (1, 0) i := fun i hi => by rw [q5.2.2 i hi, qf4.k (by omega)]
          have w6 : QW a5 a6 := ⟨fun q g0 g1 => by rw [ha6, mst_row, mrow_ne g1], fun i _ _ _ _ => by rw [r60], fun i hi => by rw [r6, if_neg (by omega)]⟩
          have hRR : LR a6 k A F := hR.al p3 (fun i g0 g1 => by rw [r6, if_neg (by omega), r5 i (by omega), r31, if_neg (by omega), if_neg (by omega)])
          have eB : B k + (s5 - s) < 512 := by omega
          obtain ⟨A', F', B', hfin⟩ := lt_close (c := 0) (am := am) (aq := a6) (ak := k7) (b' := b5) (s' := s5) (S' := S5) (M' := M5) hP hk hC hRR (Q5.al (by rw [r60]) (by rw [r60]) (by rw [ha6, mst_row, mrow_neA (by omega)])) K7 ⟨by rw [r60]; exact E5.1, fun i hi => by rw [r6, r6, if_neg (by omega), if_neg (by omega)]; exact E5.2.2 i hi⟩ (by omega) (by omega) y2 (fun i hi => hS5 i hi) y5 ham9
            (by rw [r6, if_neg (by omega), r5 _ (by omega), r31, if_neg (by omega), if_pos rfl]) (by rw [r6, if_neg (by omega), r5 _ (by omega), r31, if_pos rfl]) (by rw [r6, if_pos rfl]) (by rw [if_neg (by omega)]) (by rw [j1])
            (fun i hi => by rw [j3 i (by omega), g3 i (by omega), f5.2.2 i hi, ks3.1 _ (by simp), k10])
            (fun t ht => by rw [j3 _ (by omega), g3 _ (by omega)]; exact EK5.2 t ht) (fun e => by omega) (by rw [j3 _ (by omega)]; exact g2) j2 (by rw [if_neg (by omega)]; exact y6) y7
          left
          refine ⟨a6, k7, b5, s5, S5, M5, A', F', B', ?_, ?_, by omega, hfin, ((w3.tr qf4.L.W).tr q5.W).tr w6, (((fv2.tr ks3.V).tr f5.V).tr fv6).tr fv7⟩
          · rw [hqq]
            show ((f_X11_readCondD 8 a4).bind _) = _
            rw [e6, Option.bind_some, if_neg (u1 a5), ha6]
            rfl
          · rw [hkk, K2.kind, if_pos (qe310.mpr c3), e5, Option.bind_some, e7, Option.bind_some, if_neg (u1 k5)]
            show ((f_X3_add sh ln k5 (nI am)).bind _) = _
            rw [e8, Option.bind_some]
            show ((f_X3_add sh ln k6 (2006 : Int32)).bind _) = _
            rw [e9]
            exact q_cb1
        · right
          refine ⟨a5, k5, x, ?_, ?_, g15, g7, (w3.tr qf4.L.W).tr q5.W, (fv2.tr ks3.V).tw f5⟩
          · rw [hqq]
            show ((f_X11_readCondD 8 a4).bind _) = _
            rw [e6]; rfl
          · rw [hkk, K2.kind, if_pos (qe310.mpr c3), e5, Option.bind_some, e7]; rfl
      · rw [decide_eq_false c3, if_pos (show ((bI false, a4) : Int32 × Mm).1 = 0 from rfl)] at hqq
        rw [if_neg c3] at Q4
        obtain ⟨k5, e7, o1, o2, o3, K5, fv5⟩ := k_addR (sh := sh) k12 (by omega) K2 (1 : Int32)
        obtain ⟨k6, e8, g1, g2, g3, K6, fv6⟩ := k_addR (sh := sh) o1 (by omega) K5 (nI am)
        obtain ⟨k7, e9, j1, j2, j3, K7, fv7⟩ := k_addR (sh := sh) g1 (by omega) K6 (2006 : Int32)
        have E4 := E3.qf qf4
        obtain ⟨a6, ha6⟩ : ∃ a6, a6 = mst a4 (1, 0) (6278 + 3 * k + 2) (a4 (0, 0) 21) := ⟨_, rfl⟩
        have r6 : ∀ i, a6 (1, 0) i = if i = 6278 + 3 * k + 2 then nI s else a3 (1, 0) i := fun i => by rw [ha6, mst_row, mrow_self, q_upd, E4.1, qf4.k (by omega)]
        have r60 : a6 (0, 0) = a4 (0, 0) := by rw [ha6, mst_row, mrow_neA (by omega)]
        have w6 : QW a4 a6 := ⟨fun q g0 g1 => by rw [ha6, mst_row, mrow_ne g1], fun i _ _ _ _ => by rw [r60], fun i hi => by rw [r6, if_neg (by omega), qf4.k (by omega)]⟩
        have hRR : LR a6 k A F := hR.al p3 (fun i g0 g1 => by rw [r6, if_neg (by omega), r31, if_neg (by omega), if_neg (by omega)])
        obtain ⟨A', F', B', hfin⟩ := lt_close (c := 1) (am := am) (aq := a6) (ak := k7) (b' := b2) (s' := s) (S' := S) (M' := M) hP hk hC hRR (Q4.al (by rw [r60]) (by rw [r60]) (by rw [ha6, mst_row, mrow_neA (by omega)])) K7 ⟨by rw [r60]; exact E4.1, fun i hi => by rw [r6, r6, if_neg (by omega), if_neg (by omega)]; exact E3.2.2 i hi⟩ (Nat.le_refl _) (by omega) (by omega) (fun i hi => ⟨rfl, rfl⟩) p10 ham9
          (by rw [r6, if_neg (by omega), r31, if_neg (by omega), if_pos rfl]) (by rw [r6, if_neg (by omega), r31, if_pos rfl]) (by rw [r6, if_pos rfl]) (by rw [if_pos rfl]) (by rw [j1, Nat.sub_self])
          (fun i hi => by rw [j3 i (by omega), g3 i (by omega), o3 i (by omega), k10])
          (fun t ht => by omega) (fun _ => by rw [j3 _ (by omega), g3 _ (by omega)]; exact o2) (by rw [Nat.sub_self, Nat.add_zero, j3 _ (by omega)]; exact g2) (by rw [Nat.sub_self, Nat.add_zero]; exact j2) (by rw [Nat.sub_self, if_pos rfl]; rfl) (fun t ht => ⟨[], by rw [show t = 0 by omega]; rfl, by decide⟩)
        left
        refine ⟨a6, k7, b2, s, S, M, A', F', B', ?_, ?_, by omega, hfin, (w3.tr qf4.L.W).tr w6, ((fv2.tr fv5).tr fv6).tr fv7⟩
        · rw [hqq, ha6]
          rfl
        · rw [hkk, K2.kind, if_neg (fun y => c3 (qe310.mp y)), e7, Option.bind_some]
          show ((f_X3_add sh ln k5 (nI am)).bind _) = _
          rw [e8, Option.bind_some]
          show ((f_X3_add sh ln k6 (2006 : Int32)).bind _) = _
          rw [e9]
          exact q_cb1
    · right
      have hqq := hq1 _ _ (qn c2)
      rw [if_neg (show ¬ (0 : Int32) ≤ -nI 1 by decide)] at hqq
      refine ⟨mst a2 (1, 0) (6278 + 3 * k) (-nI 1), mst k1 (6, 1) 7 (nI b1), b1, hqq, ?_, ?_, wr71, (hqf.L.tr qf2.L).W.tr ?_, ks1.V.tw FW.wr⟩
      · rw [f_X3_readLine, show (309 : Int32) = nI 309 from rfl, e1, Option.bind_some, if_neg (u1 k1)]
        show ((f_X8_takeNumber_1 sh ln k1 (0 : Int32) (999 : Int32)).bind _) = _
        rw [htn.2 c2]
        rfl
      · rw [mst_row, mrow_neA (by omega)]; exact q215
      · exact ⟨fun q g0 g1 => by rw [mst_row, mrow_ne g1], fun i _ _ _ _ => by rw [mst_row, mrow_neA (by omega)], fun i hi => by rw [mst_row, mrow_self, q_upd, if_neg (by omega)]⟩
  · right
    refine ⟨a1, mst μk (6, 1) 7 (nI b), b, ?_, ?_, h15, wr71, hqf.L.W, FW.wr⟩
    · rw [f_X11_readLawLine, hW, decide_eq_false c1]; rfl
    · rw [f_X3_readLine, show (309 : Int32) = nI 309 from rfl, htk.2 c1]; rfl
end LWL
