-- the village's lines
/-- what lines change: the class, the reference -/
def FrV (d : Nat) (μ a : Mm) : Prop := (∀ q : Ky, q ≠ (6, 0) → q ≠ (5, 0) → ¬ (q.1 = 12 ∧ 1 ≤ q.2 ∧ q.2 < 15) → ¬ (q.1 = 12 ∧ 15 + 5 * d ≤ q.2 ∧ q.2 < 20 + 5 * d) → q ≠ (13, d) → a q = μ q) ∧ ∀ i, i < 4 ∨ i = 5 ∨ i = 6 ∨ i = 7 ∨ i = 11 ∨ i = 12 → a (6, 0) i = μ (6, 0) i
/-- .. and the wrong place -/
def FrW (d : Nat) (μ a : Mm) : Prop := (∀ q : Ky, q ≠ (6, 0) → q ≠ (5, 0) → ¬ (q.1 = 12 ∧ 1 ≤ q.2 ∧ q.2 < 15) → ¬ (q.1 = 12 ∧ 15 + 5 * d ≤ q.2 ∧ q.2 < 20 + 5 * d) → q ≠ (13, d) → a q = μ q) ∧ ∀ i, i < 4 ∨ i = 5 ∨ i = 6 ∨ i = 11 ∨ i = 12 → a (6, 0) i = μ (6, 0) i
def KW (μ a : Mm) : Prop := (∀ q : Ky, q ≠ (6, 0) → a q = μ q) ∧ ∀ i, i < 4 ∨ i = 5 ∨ i = 6 ∨ i = 11 ∨ i = 12 → a (6, 0) i = μ (6, 0) i
def QR (μ a : Mm) : Prop := Fr [0, 1, 8, 9, 10] μ a ∧ ∀ i, i ≠ 13 → i ≠ 15 → i ≠ 19 → i ≠ 20 → a (0, 0) i = μ (0, 0) i
theorem FrV.rf {d : Nat} {μ : Mm} : FrV d μ μ := ⟨fun _ _ _ _ _ _ => rfl, fun _ _ => rfl⟩
theorem FrV.tr {d : Nat} {μ a b : Mm} (h : FrV d μ a) (h2 : FrV d a b) : FrV d μ b := ⟨fun q g1 g2 g3 g4 g5 => (h2.1 q g1 g2 g3 g4 g5).trans (h.1 q g1 g2 g3 g4 g5), fun i hi => (h2.2 i hi).trans (h.2 i hi)⟩
theorem FrV.tw {d : Nat} {μ a b : Mm} (h : FrV d μ a) (h2 : FrW d a b) : FrW d μ b := ⟨fun q g1 g2 g3 g4 g5 => (h2.1 q g1 g2 g3 g4 g5).trans (h.1 q g1 g2 g3 g4 g5), fun i hi => (h2.2 i hi).trans (h.2 i (by omega))⟩
theorem KF.tw {μ a b : Mm} (h : KF 0 μ a) (h2 : KW a b) : KW μ b := ⟨fun q hq => (h2.1 q hq).trans (h.1 q hq), fun i hi => (h2.2 i hi).trans (h.2 i (by omega))⟩
theorem KW.W {d : Nat} {μ a : Mm} (h : KW μ a) : FrW d μ a := ⟨fun q g1 _ _ _ _ => h.1 q g1, h.2⟩
theorem KW.wr {μ : Mm} {x : Int32} : KW μ (mst μ (6, 0) 7 x) := by
  rw [mst_row]
  exact ⟨fun q hq => mrow_ne hq, fun i hi => by rw [mrow_self, q_upd, if_neg (by omega)]⟩
theorem KF.V {d : Nat} {μ a : Mm} (h : KF 0 μ a) : FrV d μ a := ⟨fun q g1 _ _ _ _ => h.1 q g1, h.2⟩
theorem FrS.V {d : Nat} {μ a : Mm} (h : FrS d μ a) : FrV d μ a := ⟨fun q _ g2 g3 g4 g5 => h q g2 g3 g4 g5, fun i _ => by rw [h.n0 (by omega)]⟩
theorem QR.rf {μ : Mm} : QR μ μ := ⟨Fr.rf, fun _ _ _ _ _ => rfl⟩
theorem QR.tr {μ a b : Mm} (h : QR μ a) (h2 : QR a b) : QR μ b := ⟨h.1.tr h2.1, fun i g1 g2 g3 g4 => (h2.2 i g1 g2 g3 g4).trans (h.2 i g1 g2 g3 g4)⟩
theorem QF.R {μ a : Mm} (h : QF μ a) : QR μ a := ⟨fun k hk => h.k (fun e => hk (by rw [e]; decide)), fun i g1 g2 _ _ => h.2 i g1 g2⟩
theorem Fr.R {S : List Nat} {μ a : Mm} (h : Fr S μ a) (hS : ∀ k, k ∈ S → k ∈ [1, 8, 9, 10]) : QR μ a := ⟨h.mono (fun k hk => by have := hS k hk; simp at this ⊢; omega), fun i _ _ _ _ => by rw [h 0 (fun x => by have := hS 0 x; simp at this)]⟩
theorem QR.st {μ : Mm} {i : Nat} {v : Int32} (hi : i = 15 ∨ i = 19 ∨ i = 20) : QR μ (mst μ (0, 0) i v) := by
  rw [mst_row]
  exact ⟨Fr.rf.mr (by decide), fun k g1 g2 g3 g4 => by rw [mrow_self, q_upd, if_neg (by omega)]⟩
theorem FrS.mst {d : Nat} {μ : Mm} {i : Nat} {v : Int32} : FrS d μ (mst μ (13, d) i v) := fun q _ _ _ e3 => by rw [mst_row]; exact mrow_ne e3
section LIN
variable {sh : Sh} {ln : Nat → Nat} {μ a μq μk : Mm} {T : Nat → Nat} {z b d V n N w0 : Nat} {r : Nat → Int32} {Λo : Option LW}
theorem QC.al (h : QC μ T z b) (h13 : a (0, 0) 13 = μ (0, 0) 13) (h14 : a (0, 0) 14 = μ (0, 0) 14) (h11 : a (11, 0) = μ (11, 0)) : QC a T z b := by
  obtain ⟨⟨g1, g2, g3, g4⟩, p, hp, e13, e⟩ := h
  exact ⟨⟨h14.trans g1, g2, g3, fun i hi => by rw [h11]; exact g4 i hi⟩, p, hp, h13.trans e13, e⟩
theorem QC.st (h : QC μ T z b) {i : Nat} {v : Int32} (h13 : i ≠ 13) (h14 : i ≠ 14) : QC (mst μ (0, 0) i v) T z b := by
  rw [mst_row]
  exact h.al (by rw [mrow_self, q_upd, if_neg (fun e => h13 e.symm)]) (by rw [mrow_self, q_upd, if_neg (fun e => h14 e.symm)]) (mrow_neA (by omega))
theorem QC.row (h : QC μ T z b) {k : Nat} {f : Nat → Int32} (h0 : k ≠ 0) (h11 : k ≠ 11) : QC (mrow μ (k, 0) f) T z b := h.al (by rw [mrow_neA h0]) (by rw [mrow_neA h0]) (mrow_neA h11)
theorem QC.fr (h : QC μ T z b) {S : List Nat} (hF : Fr S μ a) (h0 : 0 ∉ S) (h11 : 11 ∉ S) : QC a T z b := h.al (by rw [hF 0 h0]) (by rw [hF 0 h0]) (hF 11 h11)
theorem RS.qf (h : RS μ V n N w0 r) (hF : QF μ a) : RS a V n N w0 r := ⟨by rw [hF.k (by omega)]; exact h.1, h.2⟩
theorem RS.st0 (h : RS μ V n N w0 r) {i : Nat} {v : Int32} : RS (mst μ (0, 0) i v) V n N w0 r := ⟨by rw [mst_row, mrow_neA (by omega)]; exact h.1, h.2⟩
theorem KC.S (h : KC 0 ln μ T z b) (hF : FrS d μ a) : KC 0 ln a T z b := by
  refine h.to (fun q g1 g2 => hF q (fun e => ?_) (fun e => ?_) (fun e => ?_) (fun e => ?_)) (fun i _ _ _ _ => by rw [hF.n0 (by omega)])
  · rw [e] at g2; simp at g2
  · rcases g2 with g2 | g2 | g2 | g2
    · omega
    · omega
    · omega
    · rw [g2] at e; have := e.2.1; simp at this
  · rcases g2 with g2 | g2 | g2 | g2
    · omega
    · omega
    · omega
    · rw [g2] at e; have := e.2.1; simp at this
  · rw [e] at g2; simp at g2
theorem KC.gr {ln' : Nat → Nat} {kc ks : Nat} (h : KC 0 ln μ T z b) (hG : GR d ln ln' kc ks) : KC 0 ln' μ T z b := by
  obtain ⟨⟨g1, g2, g3, g4, g5, g6⟩, h2⟩ := h
  exact ⟨⟨g1, g2, g3, g4, g5, by rw [hG.2.2.1 0 (by omega)]; exact g6⟩, h2⟩
theorem STR.kf {c : Nat} (h : STR sh ln μ d V n N w0 r Λo) (hF : KF c μ a) : STR sh ln a d V n N w0 r Λo := h.k6 hF.1
/-- early rows; the number of texts -/
def EX (x2 : Int32) (r : Nat → Int32) : Prop := (r 7 = nI 0 ∧ r 8 = nI 0 → EZ r) ∧ r 2 = x2
/-- both stand at b, the row is r -/
def VL (sh : Sh) (ln : Nat → Nat) (μq μk : Mm) (T : Nat → Nat) (z b d V n N w0 : Nat) (r : Nat → Int32) (Λo : Option LW) (x2 : Int32) : Prop := RS μq V n N w0 r ∧ QC μq T z b ∧ KC 0 ln μk T z b ∧ STR sh ln μk d V n N w0 r Λo ∧ EX x2 r
def VX (sh : Sh) (ln : Nat → Nat) (μk : Mm) (d : Nat) : Prop := μk (6, 0) 12 = nI (d + 1) ∧ d < 11 ∧ sh 2 d = 1 ∧ LN ln ∧ LB ln ∧ UL ln
/-- both go on, or both tell the same place -/
def VO (fq fk : Option (Int32 × Mm)) (sh : Sh) (ln : Nat → Nat) (μq μk : Mm) (T : Nat → Nat) (z d : Nat) (Λo : Option LW) (x2 : Int32) : Prop :=
  (∃ aq ak V n N w0 r b, fq = some (nI 1, aq) ∧ fk = some (nI 1, ak) ∧ VL sh ln aq ak T z b d V n N w0 r Λo x2 ∧ QR μq aq ∧ FrV d μk ak) ∨
  (∃ aq ak x, fq = some (nI 0, aq) ∧ fk = some (nI 0, ak) ∧ aq (0, 0) 15 = nI x ∧ ak (6, 0) 7 = nI x ∧ QR μq aq ∧ FrW d μk ak)
theorem VX.c (h : VX sh ln μ d) : (μ (6, 0) 12).toNatClampNeg - 1 = d := by rw [h.1, q_cl (by have := h.2.1; omega), Nat.add_sub_cancel]
theorem VX.nz (h : VX sh ln μ d) : ¬ μ (6, 0) 12 = 0 := by
  have := h.2.1
  rw [h.1, show (0 : Int32) = nI 0 from rfl, q_eq (by omega) (by omega)]
  omega
theorem VX.s {X : Type} (h : VX sh ln μ d) (x : Option X) : ce (sh 2 d = 1) x = x := by
  unfold ce
  rw [if_pos h.2.2.1]
theorem VX.fr (h : VX sh ln μ d) (hF : FrV d μ a) : VX sh ln a d := ⟨by rw [hF.2 12 (by omega)]; exact h.1, h.2⟩
theorem t_person (h : RS μ V n N w0 r) (hQ : QC μ T z b) : ∃ a, QF μ a ∧ a (0, 0) 15 = nI b ∧ (KN T z b = 2 ∧ nmv T z b < n → f_X11_personTold μ = some (nI (nmv T z b), a) ∧ QC a T z (nx T z b)) ∧ (¬ (KN T z b = 2 ∧ nmv T z b < n) → f_X11_personTold μ = some (-nI 1, a)) := by
  have hb := h.2.b
  have hT := hQ.1.2.2.1
  obtain ⟨a, hF, h15, hy, hn⟩ := t_number hQ (0 : Int32) (nI n - (1 : Int32))
  have hi := okN_iff (T := T) (z := z) (b := b) (m := n) (fun c => nmv_le c) (hT b) (by omega)
  refine ⟨a, hF, h15, fun c => ?_, fun c => ?_⟩
  · have := hy (hi.mpr c)
    exact ⟨by rw [f_X11_personTold, q_people h, Option.bind_some, this.1]; rfl, this.2⟩
  · have := hn (fun x => c (hi.mp x))
    rw [f_X11_personTold, q_people h, Option.bind_some, this]
    rfl
/-- two people, or the same place -/
theorem v_two {r1 : Nat → Int32} (hR : RS μq V n N w0 r1) (hQ : QC μq T z b) (hK : KC 0 ln μk T z b) (hS : STR sh ln μk d V n N w0 r Λo) (hX : VX sh ln μk d) :
    (∃ aq ak p q b2, f_X11_readTwo μq = some (nI 1, aq) ∧ f_X9_readTwo sh ln μk = some (nI 1, ak) ∧ (RS aq V n N w0 r1 ∧ QC aq T z b2 ∧ KC 0 ln ak T z b2 ∧ STR sh ln ak d V n N w0 r Λo) ∧ p < n ∧ q < n ∧ p ≠ q ∧ aq (0, 0) 19 = nI p ∧ aq (0, 0) 20 = nI q ∧ ak (6, 0) 13 = nI p ∧ ak (6, 0) 14 = nI q ∧ QR μq aq ∧ KF 0 μk ak) ∨
    (∃ aq ak x, f_X11_readTwo μq = some (nI 0, aq) ∧ f_X9_readTwo sh ln μk = some (nI 0, ak) ∧ aq (0, 0) 15 = nI x ∧ ak (6, 0) 7 = nI x ∧ QR μq aq ∧ KW μk ak) := by
  have hb := hR.2.b
  have hT := hQ.1.2.2.1
  obtain ⟨k1, hk1⟩ : ∃ k1, k1 = mst μk (6, 0) 13 (μk (6, 0) 10) := ⟨_, rfl⟩
  have fk1 : KF 0 μk k1 := by rw [hk1, mst_row]; exact ⟨fun q hq => mrow_ne hq, fun i hi => by rw [mrow_self, q_upd, if_neg (by omega)]⟩
  have K1 : KC 0 ln k1 T z b := by rw [hk1, mst_row]; exact hK.to (fun q hq _ => mrow_ne hq) (fun i _ h13 _ _ => by rw [mrow_self, q_upd, if_neg h13])
  have x1 : k1 (6, 0) 12 = nI (d + 1) := by rw [fk1.2 12 (by omega)]; exact hX.1
  have X1 : VX sh ln k1 d := ⟨x1, hX.2⟩
  have hi := fun b => okN_iff (T := T) (z := z) (b := b) (m := n) (fun c => nmv_le c) (hT b) (by omega)
  have s1 : k1 (13, d) 1 = nI n := by rw [fk1.k (by omega)]; exact hS.1.c1
  have ht1 := k_takeN0 (sh := sh) K1 (0 : Int32) (nI n - (1 : Int32))
  obtain ⟨a1, qf1, q15, qy, qn⟩ := t_person hR hQ
  have kk : f_X9_readTwo sh ln μk = (f_X8_takeNumber_0 sh ln k1 (0 : Int32) (nI n - (1 : Int32))).bind fun x19 => if x19.1 = 0 then some ((0 : Int32), x19.2) else (if (mst x19.2 (6, 0) 14 (x19.2 (6, 0) 10)) (6, 0) 12 = 0 then none else (ce (sh 2 (((mst x19.2 (6, 0) 14 (x19.2 (6, 0) 10)) (6, 0) 12).toNatClampNeg - 1) = 1) ((f_X8_takeNumber_0 sh ln (mst x19.2 (6, 0) 14 (x19.2 (6, 0) 10)) (0 : Int32) (((mst x19.2 (6, 0) 14 (x19.2 (6, 0) 10)) (13, ((mst x19.2 (6, 0) 14 (x19.2 (6, 0) 10)) (6, 0) 12).toNatClampNeg - 1) 1) - (1 : Int32))).bind fun x51 => if x51.1 = 0 then some ((0 : Int32), x51.2) else (if (x51.2 (6, 0) 13) = (x51.2 (6, 0) 14) then (f_X8_wrongAt_0 sh ln x51.2 ((mst x19.2 (6, 0) 14 (x19.2 (6, 0) 10)) (6, 0) 9)).bind fun x70 => if x70.1 = 0 then some ((0 : Int32), x70.2) else (some ((1 : Int32), x70.2)) else (some ((1 : Int32), x51.2)))))) := by
    rw [f_X9_readTwo, ← hk1, if_neg X1.nz, X1.c, X1.s, s1]
  by_cases c1 : KN T z b = 2 ∧ nmv T z b < n
  · obtain ⟨p, hp⟩ : ∃ p, p = nmv T z b := ⟨_, rfl⟩
    have hbz : b < z := ((KN_2 (z := z) (hT b)).mp c1.1).1
    obtain ⟨k2, e2, kf2, K2, n2⟩ := ht1.1 ((hi b).mpr c1)
    obtain ⟨qe1, Q1⟩ := qy c1
    rw [← hp] at qe1 n2
    obtain ⟨a2, ha2⟩ : ∃ a2, a2 = mst a1 (0, 0) 19 (nI p) := ⟨_, rfl⟩
    obtain ⟨k3, hk3⟩ : ∃ k3, k3 = mst k2 (6, 0) 14 (k2 (6, 0) 10) := ⟨_, rfl⟩
    have fk3 : KF 0 k2 k3 := by rw [hk3, mst_row]; exact ⟨fun q hq => mrow_ne hq, fun i hi => by rw [mrow_self, q_upd, if_neg (by omega)]⟩
    have K3 : KC 0 ln k3 T z (nx T z b) := by rw [hk3, mst_row]; exact K2.to (fun q hq _ => mrow_ne hq) (fun i _ _ h14 _ => by rw [mrow_self, q_upd, if_neg h14])
    have F3 : KF 0 μk k3 := (fk1.tr kf2.F).tr fk3
    have X3 : VX sh ln k3 d := ⟨by rw [F3.2 12 (by omega)]; exact hX.1, hX.2⟩
    have s3 : k3 (13, d) 1 = nI n := by rw [F3.k (by omega)]; exact hS.1.c1
    have e13 : k3 (6, 0) 13 = nI p := by
      rw [hk3, mst_row, mrow_self, q_upd, if_neg (by omega), kf2.2 13 (by omega) (by omega) (by omega) (by omega), hk1, mst_row, mrow_self, q_upd, if_pos rfl, ← n2, hk1, mst_row, mrow_self, q_upd, if_neg (by omega)]
    have ht3 := k_takeN0 (sh := sh) K3 (0 : Int32) (nI n - (1 : Int32))
    have R2 : RS a2 V n N w0 r1 := by rw [ha2]; exact (hR.qf qf1).st0
    have Q2 : QC a2 T z (nx T z b) := by rw [ha2]; exact Q1.st (by omega) (by omega)
    have qr2 : QR μq a2 := by rw [ha2]; exact qf1.R.tr (QR.st (Or.inr (Or.inl rfl)))
    have e19 : a2 (0, 0) 19 = nI p := by rw [ha2, mst_row, mrow_self, q_upd, if_pos rfl]
    obtain ⟨a3, qf3, q315, qy3, qn3⟩ := t_person R2 Q2
    have hkk2 : f_X9_readTwo sh ln μk = (f_X8_takeNumber_0 sh ln k3 (0 : Int32) (nI n - (1 : Int32))).bind fun x51 => if x51.1 = 0 then some ((0 : Int32), x51.2) else (if (x51.2 (6, 0) 13) = (x51.2 (6, 0) 14) then (f_X8_wrongAt_0 sh ln x51.2 (k3 (6, 0) 9)).bind fun x70 => if x70.1 = 0 then some ((0 : Int32), x70.2) else (some ((1 : Int32), x70.2)) else (some ((1 : Int32), x51.2))) := by
      rw [kk, e2, Option.bind_some, if_neg (show ¬ (nI 1, k2).1 = 0 by show ¬ nI 1 = 0; decide)]
      show (if (mst k2 (6, 0) 14 (k2 (6, 0) 10)) (6, 0) 12 = 0 then none else _) = _
      rw [← hk3, if_neg X3.nz, X3.c, X3.s, s3]
    have hqq2 : f_X11_readTwo μq = (f_X11_personTold a2).bind fun x19 => if ((mst x19.2 (0, 0) 20 x19.1) (0, 0) 20) < 0 then some ((0 : Int32), (mst x19.2 (0, 0) 20 x19.1)) else (if ((mst x19.2 (0, 0) 20 x19.1) (0, 0) 20) = ((mst x19.2 (0, 0) 20 x19.1) (0, 0) 19) then some ((0 : Int32), (mst x19.2 (0, 0) 20 x19.1)) else (some ((1 : Int32), (mst x19.2 (0, 0) 20 x19.1)))) := by
      rw [f_X11_readTwo, qe1, Option.bind_some]
      show (if 0 ≤ ((mst a1 (0, 0) 19 (nI p)) (0, 0) 19) then (f_X11_personTold (mst a1 (0, 0) 19 (nI p))).bind _ else _) = _
      rw [← ha2, e19, if_pos (show (0 : Int32) ≤ nI p from nI_le (a := 0) (by omega) (by omega))]
    by_cases c2 : KN T z (nx T z b) = 2 ∧ nmv T z (nx T z b) < n
    · obtain ⟨q, hq⟩ : ∃ q, q = nmv T z (nx T z b) := ⟨_, rfl⟩
      have hbz2 : nx T z b < z := ((KN_2 (z := z) (hT _)).mp c2.1).1
      obtain ⟨k4, e4, kf4, K4, n4⟩ := ht3.1 ((hi _).mpr c2)
      obtain ⟨qe3, Q3⟩ := qy3 c2
      rw [← hq] at qe3 n4
      have e413 : k4 (6, 0) 13 = nI p := by rw [kf4.2 13 (by omega) (by omega) (by omega) (by omega)]; exact e13
      have e414 : k4 (6, 0) 14 = nI q := by
        rw [kf4.2 14 (by omega) (by omega) (by omega) (by omega), hk3, mst_row, mrow_self, q_upd, if_pos rfl, ← n4, hk3, mst_row, mrow_self, q_upd, if_neg (by omega)]
      obtain ⟨a4, ha4⟩ : ∃ a4, a4 = mst a3 (0, 0) 20 (nI q) := ⟨_, rfl⟩
      have e420 : a4 (0, 0) 20 = nI q := by rw [ha4, mst_row, mrow_self, q_upd, if_pos rfl]
      have e419 : a4 (0, 0) 19 = nI p := by rw [ha4, mst_row, mrow_self, q_upd, if_neg (by omega), qf3.2 19 (by omega) (by omega)]; exact e19
      have e415 : a4 (0, 0) 15 = nI (nx T z b) := by rw [ha4, mst_row, mrow_self, q_upd, if_neg (by omega)]; exact q315
      have qr4 : QR μq a4 := by rw [ha4]; exact (qr2.tr qf3.R).tr (QR.st (Or.inr (Or.inr rfl)))
      have F4 : KF 0 μk k4 := F3.tr kf4.F
      have q0 : ¬ nI q < (0 : Int32) := nI_nneg (by omega)
      have hqq3 : f_X11_readTwo μq = (if nI q = nI p then some ((0 : Int32), a4) else (some ((1 : Int32), a4))) := by
        rw [hqq2, qe3, Option.bind_some]
        show (if ((mst a3 (0, 0) 20 (nI q)) (0, 0) 20) < 0 then some ((0 : Int32), (mst a3 (0, 0) 20 (nI q))) else (if ((mst a3 (0, 0) 20 (nI q)) (0, 0) 20) = ((mst a3 (0, 0) 20 (nI q)) (0, 0) 19) then some ((0 : Int32), (mst a3 (0, 0) 20 (nI q))) else (some ((1 : Int32), (mst a3 (0, 0) 20 (nI q)))))) = _
        rw [← ha4, e420, e419, if_neg q0]
      have hkk3 : f_X9_readTwo sh ln μk = (if nI p = nI q then some (nI 0, mst k4 (6, 0) 7 (nI (nx T z b))) else some (nI 1, k4)) := by
        rw [hkk2, e4, Option.bind_some, if_neg (show ¬ (nI 1, k4).1 = 0 by show ¬ nI 1 = 0; decide)]
        show (if (k4 (6, 0) 13) = (k4 (6, 0) 14) then (f_X8_wrongAt_0 sh ln k4 (k3 (6, 0) 9)).bind _ else (some ((1 : Int32), k4))) = _
        rw [e413, e414, K3.beg, f_X8_wrongAt_0]
        rfl
      have qe : (nI p = nI q) = (p = q) := q_eq (by omega) (by omega)
      by_cases c3 : p = q
      · right
        refine ⟨a4, mst k4 (6, 0) 7 (nI (nx T z b)), nx T z b, ?_, ?_, e415, ?_, qr4, ?_⟩
        · rw [hqq3, if_pos (by rw [c3])]; rfl
        · rw [hkk3, if_pos (by rw [c3])]
        · rw [mst_row, mrow_self, q_upd, if_pos rfl]
        · exact F4.tw KW.wr
      · left
        refine ⟨a4, k4, p, q, nx T z (nx T z b), ?_, ?_, ⟨?_, ?_, K4, hS.kf F4⟩, by omega, by omega, c3, e419, e420, e413, e414, qr4, F4⟩
        · rw [hqq3, if_neg (fun x => c3 (qe.mp x.symm))]; rfl
        · rw [hkk3, if_neg (fun x => c3 (qe.mp x))]
        · rw [ha4]; exact (R2.qf qf3).st0
        · rw [ha4]; exact Q3.st (by omega) (by omega)
    · right
      have e4 := ht3.2 (fun x => c2 ((hi _).mp x))
      have qe3 := qn3 c2
      obtain ⟨a4, ha4⟩ : ∃ a4, a4 = mst a3 (0, 0) 20 (-nI 1) := ⟨_, rfl⟩
      refine ⟨a4, mst k3 (6, 0) 7 (nI (nx T z b)), nx T z b, ?_, ?_, ?_, ?_, ?_, ?_⟩
      · rw [hqq2, qe3, Option.bind_some]
        show (if ((mst a3 (0, 0) 20 (-nI 1)) (0, 0) 20) < 0 then some ((0 : Int32), (mst a3 (0, 0) 20 (-nI 1))) else _) = _
        rw [← ha4, if_pos (show a4 (0, 0) 20 < 0 by rw [ha4, mst_row, mrow_self, q_upd, if_pos rfl]; decide)]
        rfl
      · rw [hkk2, e4]; rfl
      · rw [ha4, mst_row, mrow_self, q_upd, if_neg (by omega)]; exact q315
      · rw [mst_row, mrow_self, q_upd, if_pos rfl]
      · rw [ha4]; exact (qr2.tr qf3.R).tr (QR.st (Or.inr (Or.inr rfl)))
      · exact F3.tw KW.wr
  · right
    have e2 := ht1.2 (fun x => c1 ((hi b).mp x))
    have qe1 := qn c1
    obtain ⟨a2, ha2⟩ : ∃ a2, a2 = mst a1 (0, 0) 19 (-nI 1) := ⟨_, rfl⟩
    refine ⟨a2, mst k1 (6, 0) 7 (nI b), b, ?_, ?_, ?_, ?_, ?_, ?_⟩
    · rw [f_X11_readTwo, qe1, Option.bind_some]
      show (if 0 ≤ ((mst a1 (0, 0) 19 (-nI 1)) (0, 0) 19) then _ else some ((0 : Int32), mst a1 (0, 0) 19 (-nI 1))) = _
      rw [← ha2, if_neg (show ¬ (0 : Int32) ≤ a2 (0, 0) 19 by rw [ha2, mst_row, mrow_self, q_upd, if_pos rfl]; decide)]
      rfl
    · rw [kk, e2]; rfl
    · rw [ha2, mst_row, mrow_self, q_upd, if_neg (by omega)]; exact q15
    · rw [mst_row, mrow_self, q_upd, if_pos rfl]
    · rw [ha2]; exact qf1.R.tr (QR.st (Or.inr (Or.inl rfl)))
    · exact fk1.tw KW.wr
end LIN
