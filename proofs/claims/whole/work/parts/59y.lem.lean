-- the law's text: what both make of it
def tyS (S : Nat → Nat) (f : Nat) : Nat → Option (List Bool)
  | 0 => some []
  | t + 1 => (tyS S f t).bind (tyN (S (f + t)))
theorem tyS_congr {S S' : Nat → Nat} {f : Nat} : ∀ t, (∀ i, i < f + t → S' i = S i) → tyS S' f t = tyS S f t := by
  intro t
  induction t with
  | zero => exact fun _ => rfl
  | succ t ih =>
    intro h
    show (tyS S' f t).bind _ = (tyS S f t).bind _
    rw [ih (fun i hi => h i (by omega)), h (f + t) (by omega)]
/-- the reference's steps so far -/
def EQ (μ : Mm) (s : Nat) (S M : Nat → Nat) (dp : Nat) : Prop := μ (0, 0) 21 = nI s ∧ μ (0, 0) 16 = nI dp ∧ ∀ i, i < s → μ (1, 0) (6314 + 2 * i) = nI (S i) ∧ (S i = 6 → μ (1, 0) (6315 + 2 * i) = nI (M i))
/-- the class's code of this line so far -/
def EK (μ : Mm) (f cb s : Nat) (S M : Nat → Nat) : Prop := μ (6, 1) 12 = nI (cb + (s - f)) ∧ ∀ t, t < s - f → μ (10, 0) (cb + t) = nI (cs (S (f + t)) (M (f + t)))
/-- of which type the steps are -/
def PU (f cb s : Nat) (S M : Nat → Nat) (l : List Bool) (b : Nat) : Prop := s + 1 ≤ b ∧ b ≤ 400 ∧ f ≤ s ∧ cb ≤ f + 36 ∧ (∀ i, i < s → S i ≤ 12 ∧ M i ≤ 999) ∧ tyS S f (s - f) = some l ∧ ∀ t, t ≤ s - f → ∃ l', tyS S f t = some l' ∧ l'.length ≤ 40
def QL (μ a : Mm) : Prop := (∀ q : Ky, q ≠ (0, 0) → q ≠ (1, 0) → a q = μ q) ∧ (∀ i, i ≠ 13 → i ≠ 15 → i ≠ 16 → i ≠ 21 → a (0, 0) i = μ (0, 0) i) ∧ ∀ i, i < 6314 → a (1, 0) i = μ (1, 0) i
def FL (cb : Nat) (μ a : Mm) : Prop := (∀ q : Ky, q ≠ (6, 1) → q ≠ (10, 0) → a q = μ q) ∧ (∀ i, i < 4 ∨ i = 5 ∨ i = 6 ∨ i = 7 ∨ i = 11 → a (6, 1) i = μ (6, 1) i) ∧ ∀ i, i < cb → a (10, 0) i = μ (10, 0) i
def FW (μ a : Mm) : Prop := (∀ q : Ky, q ≠ (6, 1) → q ≠ (10, 0) → a q = μ q)
theorem QL.rf {μ : Mm} : QL μ μ := ⟨fun _ _ _ => rfl, fun _ _ _ _ _ => rfl, fun _ _ => rfl⟩
theorem QL.tr {μ a b : Mm} (h : QL μ a) (h2 : QL a b) : QL μ b := ⟨fun q g0 g1 => (h2.1 q g0 g1).trans (h.1 q g0 g1), fun i g1 g2 g3 g4 => (h2.2.1 i g1 g2 g3 g4).trans (h.2.1 i g1 g2 g3 g4), fun i hi => (h2.2.2 i hi).trans (h.2.2 i hi)⟩
theorem QF.L {μ a : Mm} (h : QF μ a) : QL μ a := ⟨fun q g0 _ => h.1 q g0, fun i g1 g2 _ _ => h.2 i g1 g2, fun i _ => by rw [h.k (by omega)]⟩
theorem FL.rf {cb : Nat} {μ : Mm} : FL cb μ μ := ⟨fun _ _ _ => rfl, fun _ _ => rfl, fun _ _ => rfl⟩
theorem FL.tr {cb : Nat} {μ a b : Mm} (h : FL cb μ a) (h2 : FL cb a b) : FL cb μ b := ⟨fun q g0 g1 => (h2.1 q g0 g1).trans (h.1 q g0 g1), fun i g1 => (h2.2.1 i g1).trans (h.2.1 i g1), fun i hi => (h2.2.2 i hi).trans (h.2.2 i hi)⟩
theorem FL.tw {cb : Nat} {μ a b : Mm} (h : FL cb μ a) (h2 : FW a b) : FW μ b := fun q g0 g1 => (h2 q g0 g1).trans (h.1 q g0 g1)
theorem KS.L {cb : Nat} {μ a : Mm} (h : KS 1 μ a) : FL cb μ a := ⟨fun q g0 _ => h.1 q g0, fun i hi => h.2 i (by omega) (by omega) (by omega) (by omega), fun i _ => by rw [h.1 _ (by simp)]⟩
theorem FW.wr {μ : Mm} {x : Int32} : FW μ (mst μ (6, 1) 7 x) := fun q g0 _ => by rw [mst_row]; exact mrow_ne g0
theorem wr71 {μ : Mm} {x : Int32} : mst μ (6, 1) 7 x (6, 1) 7 = x := by rw [mst_row, mrow_self, q_upd, if_pos rfl]
section LEM
variable {sh : Sh} {ln : Nat → Nat} {μ a μq μk : Mm} {T : Nat → Nat} {z b b' f cb s dp : Nat} {S M : Nat → Nat} {l l2 : List Bool}
theorem EQ.qf (h : EQ μ s S M dp) (hF : QF μ a) : EQ a s S M dp := by
  unfold EQ at *
  rw [hF.2 21 (by omega) (by omega), hF.2 16 (by omega) (by omega), hF.k (show (1 : Nat) ≠ 0 by omega)]
  exact h
theorem EK.ks (h : EK μ f cb s S M) (hF : KS 1 μ a) : EK a f cb s S M := by
  unfold EK at *
  rw [hF.2 12 (by omega) (by omega) (by omega) (by omega), hF.1 (10, 0) (by simp)]
  exact h
theorem PU.mono (h : PU f cb s S M l b) (h1 : b ≤ b') (h2 : b' ≤ 400) : PU f cb s S M l b' := ⟨by have := h.1; omega, h2, h.2.2⟩
/-- one step more: its type -/
theorem PU.emit (h : PU f cb s S M l b) {x m : Nat} (hx : x ≤ 12) (hm : m ≤ 999) (ht : tyN x l = some l2) (hl : l2.length ≤ 40) (h1 : s + 2 ≤ b') (h2 : b' ≤ 400) : PU f cb (s + 1) (updN S s x) (updN M s m) l2 b' := by
  obtain ⟨g1, g2, g3, g4, g5, g6, g7⟩ := h
  have hS : ∀ i, i < s → updN S s x i = S i := fun i hi => if_neg (by omega)
  have ec : ∀ t, t ≤ s - f → tyS (updN S s x) f t = tyS S f t := fun t ht => tyS_congr t (fun i hi => hS i (by omega))
  have e1 : tyS (updN S s x) f (s - f + 1) = some l2 := by
    show (tyS (updN S s x) f (s - f)).bind (tyN (updN S s x (f + (s - f)))) = _
    rw [ec _ (Nat.le_refl _), g6, show f + (s - f) = s by omega]
    show tyN (updN S s x s) l = _
    rw [show updN S s x s = x from if_pos rfl]
    exact ht
  refine ⟨by omega, h2, by omega, g4, fun i hi => ?_, by rw [show s + 1 - f = s - f + 1 by omega]; exact e1, fun t ht2 => ?_⟩
  · by_cases c : i = s
    · rw [c, show updN S s x s = x from if_pos rfl, show updN M s m s = m from if_pos rfl]
      exact ⟨hx, hm⟩
    · rw [show updN S s x i = S i from if_neg c, show updN M s m i = M i from if_neg c]
      exact g5 i (by omega)
  · by_cases c : t = s - f + 1
    · rw [c]
      exact ⟨l2, e1, hl⟩
    · rw [ec t (by omega)]
      exact g7 t (by omega)
/-- one step more: the reference -/
theorem q_emits (h : EQ μ s S M dp) (hs : s ≤ 399) (hQ : QC μ T z b) (x m : Nat) (v w : Int32) (hv : v = nI x) (hw : x = 6 → w = nI m) : ∃ a, f_X11_emits μ v w = some a ∧ EQ a (s + 1) (updN S s x) (updN M s m) dp ∧ QC a T z b ∧ QL μ a ∧ a (0, 0) 15 = μ (0, 0) 15 := by
  obtain ⟨g1, g2, g3⟩ := h
  obtain ⟨m1, hm1⟩ : ∃ m1, m1 = mst μ (1, 0) (6314 + 2 * s) v := ⟨_, rfl⟩
  have e21 : m1 (0, 0) 21 = nI s := by rw [hm1, mst_row, mrow_neA (by omega)]; exact g1
  obtain ⟨m2, hm2⟩ : ∃ m2, m2 = mst m1 (1, 0) (6315 + 2 * s) w := ⟨_, rfl⟩
  have e212 : m2 (0, 0) 21 = nI s := by rw [hm2, mst_row, mrow_neA (by omega)]; exact e21
  obtain ⟨m3, hm3⟩ : ∃ m3, m3 = mst m2 (0, 0) 21 (nI (s + 1)) := ⟨_, rfl⟩
  have i1 : (6314 : Int32) + (2 : Int32) * nI s = nI (6314 + 2 * s) := by rw [show (2 : Int32) = nI 2 from rfl, pk_mul, show (6314 : Int32) = nI 6314 from rfl, nI_add]
  have i2 : nI (6314 + 2 * s) + (1 : Int32) = nI (6315 + 2 * s) := by rw [show (1 : Int32) = nI 1 from rfl, nI_add, show 6314 + 2 * s + 1 = 6315 + 2 * s by omega]
  have key : f_X11_emits μ v w = some m3 := by
    rw [f_X11_emits, g1, i1, q_ck (by omega) (by omega), q_cl (by omega), ← hm1, e21, i1, i2, q_ck (by omega) (by omega), q_cl (by omega), ← hm2, e212, show (1 : Int32) = nI 1 from rfl, nI_add, ← hm3]
  have r0 : ∀ i, m3 (0, 0) i = if i = 21 then nI (s + 1) else μ (0, 0) i := fun i => by
    rw [hm3, mst_row, mrow_self, q_upd, hm2, mst_row, mrow_neA (by omega), hm1, mst_row, mrow_neA (by omega)]
  have r1 : ∀ i, m3 (1, 0) i = if i = 6315 + 2 * s then w else if i = 6314 + 2 * s then v else μ (1, 0) i := fun i => by
    rw [hm3, mst_row, mrow_neA (by omega), hm2, mst_row, mrow_self, q_upd, hm1, mst_row, mrow_self, q_upd]
  have rk : ∀ q : Ky, q ≠ (0, 0) → q ≠ (1, 0) → m3 q = μ q := fun q g0 g1 => by rw [hm3, mst_row, mrow_ne g0, hm2, mst_row, mrow_ne g1, hm1, mst_row, mrow_ne g1]
  refine ⟨m3, key, ⟨by rw [r0]; rfl, by rw [r0]; exact g2, fun i hi => ?_⟩, hQ.al (by rw [r0]; rfl) (by rw [r0]; rfl) (rk _ (by simp) (by simp)), ⟨rk, fun i h13 h15 h16 h21 => by rw [r0, if_neg h21], fun i hi => by rw [r1, if_neg (by omega), if_neg (by omega)]⟩, by rw [r0]; rfl⟩
  rw [r1, r1]
  by_cases c : i = s
  · rw [c, show updN S s x s = x from if_pos rfl, show updN M s m s = m from if_pos rfl, if_neg (by omega), if_pos rfl, if_pos rfl]
    exact ⟨hv, hw⟩
  · rw [show updN S s x i = S i from if_neg c, show updN M s m i = M i from if_neg c, if_neg (by omega), if_neg (by omega), if_neg (by omega), if_neg (by omega)]
    exact g3 i (by omega)
theorem q_emits0 (h : EQ μ s S M dp) (hs : s ≤ 399) (v w : Int32) : ∃ a, f_X11_emits μ v w = some a ∧ QL μ a ∧ a (0, 0) 15 = μ (0, 0) 15 := by
  obtain ⟨g1, g2, g3⟩ := h
  obtain ⟨m1, hm1⟩ : ∃ m1, m1 = mst μ (1, 0) (6314 + 2 * s) v := ⟨_, rfl⟩
  have e21 : m1 (0, 0) 21 = nI s := by rw [hm1, mst_row, mrow_neA (by omega)]; exact g1
  obtain ⟨m2, hm2⟩ : ∃ m2, m2 = mst m1 (1, 0) (6315 + 2 * s) w := ⟨_, rfl⟩
  have e212 : m2 (0, 0) 21 = nI s := by rw [hm2, mst_row, mrow_neA (by omega)]; exact e21
  obtain ⟨m3, hm3⟩ : ∃ m3, m3 = mst m2 (0, 0) 21 (nI (s + 1)) := ⟨_, rfl⟩
  have i1 : (6314 : Int32) + (2 : Int32) * nI s = nI (6314 + 2 * s) := by rw [show (2 : Int32) = nI 2 from rfl, pk_mul, show (6314 : Int32) = nI 6314 from rfl, nI_add]
  have i2 : nI (6314 + 2 * s) + (1 : Int32) = nI (6315 + 2 * s) := by rw [show (1 : Int32) = nI 1 from rfl, nI_add, show 6314 + 2 * s + 1 = 6315 + 2 * s by omega]
  have key : f_X11_emits μ v w = some m3 := by
    rw [f_X11_emits, g1, i1, q_ck (by omega) (by omega), q_cl (by omega), ← hm1, e21, i1, i2, q_ck (by omega) (by omega), q_cl (by omega), ← hm2, e212, show (1 : Int32) = nI 1 from rfl, nI_add, ← hm3]
  have r0 : ∀ i, m3 (0, 0) i = if i = 21 then nI (s + 1) else μ (0, 0) i := fun i => by
    rw [hm3, mst_row, mrow_self, q_upd, hm2, mst_row, mrow_neA (by omega), hm1, mst_row, mrow_neA (by omega)]
  have r1 : ∀ i, m3 (1, 0) i = if i = 6315 + 2 * s then w else if i = 6314 + 2 * s then v else μ (1, 0) i := fun i => by
    rw [hm3, mst_row, mrow_neA (by omega), hm2, mst_row, mrow_self, q_upd, hm1, mst_row, mrow_self, q_upd]
  have rk : ∀ q : Ky, q ≠ (0, 0) → q ≠ (1, 0) → m3 q = μ q := fun q g0 g1 => by rw [hm3, mst_row, mrow_ne g0, hm2, mst_row, mrow_ne g1, hm1, mst_row, mrow_ne g1]
  exact ⟨m3, key, ⟨rk, fun i h13 h15 h16 h21 => by rw [r0, if_neg h21], fun i hi => by rw [r1, if_neg (by omega), if_neg (by omega)]⟩, by rw [r0]; rfl⟩
/-- one step more: the class -/
theorem k_add (h : EK μ f cb s S M) (hfs : f ≤ s) (hc : cb + (s - f) < 512) (hK : KC 1 ln μ T z b) (x m : Nat) (v : Int32) (hv : v = nI (cs x m)) : ∃ a, f_X3_add sh ln μ v = some (nI 1, a) ∧ EK a f cb (s + 1) (updN S s x) (updN M s m) ∧ KC 1 ln a T z b ∧ FL cb μ a := by
  obtain ⟨g1, g2⟩ := h
  obtain ⟨n, hn⟩ : ∃ n, n = cb + (s - f) := ⟨_, rfl⟩
  rw [← hn] at g1 hc
  obtain ⟨m1, hm1⟩ : ∃ m1, m1 = mst μ (10, 0) n v := ⟨_, rfl⟩
  have e12 : m1 (6, 1) 12 = nI n := by rw [hm1, mst_row, mrow_neA (by omega)]; exact g1
  obtain ⟨m2, hm2⟩ : ∃ m2, m2 = mst m1 (6, 1) 12 (nI (n + 1)) := ⟨_, rfl⟩
  have key : f_X3_add sh ln μ v = some (nI 1, m2) := by
    rw [f_X3_add, g1, if_neg (by rw [show (512 : Int32) = nI 512 from rfl, q_le (by omega) (by omega)]; omega), q_ck (by omega) hc, q_cl (by omega), ← hm1, e12, Option.bind_some, show (1 : Int32) = nI 1 from rfl, nI_add, ← hm2]
  have r6 : ∀ i, m2 (6, 1) i = if i = 12 then nI (n + 1) else μ (6, 1) i := fun i => by rw [hm2, mst_row, mrow_self, q_upd, hm1, mst_row, mrow_neA (by omega)]
  have r10 : ∀ i, m2 (10, 0) i = if i = n then v else μ (10, 0) i := fun i => by rw [hm2, mst_row, mrow_neA (by omega), hm1, mst_row, mrow_self, q_upd]
  have rk : ∀ q : Ky, q ≠ (6, 1) → q ≠ (10, 0) → m2 q = μ q := fun q g6 g10 => by rw [hm2, mst_row, mrow_ne g6, hm1, mst_row, mrow_ne g10]
  refine ⟨m2, key, ⟨?_, fun t ht => ?_⟩, hK.to (fun q g6 gq => rk q g6 (fun y => by rw [y] at gq; simp at gq)) (fun i _ _ _ hi => by rw [r6, if_neg (by omega)]), ⟨rk, fun i hi => by rw [r6, if_neg (by omega)], fun i hi => by rw [r10, if_neg (by omega)]⟩⟩
  · rw [r6, if_pos rfl, hn, show cb + (s - f) + 1 = cb + (s + 1 - f) by omega]
  · rw [r10]
    by_cases c : t = s - f
    · rw [if_pos (by omega), show f + t = s by omega, show updN S s x s = x from if_pos rfl, show updN M s m s = m from if_pos rfl]
      exact hv
    · rw [if_neg (by omega), show updN S s x (f + t) = S (f + t) from if_neg (by omega), show updN M s m (f + t) = M (f + t) from if_neg (by omega)]
      exact g2 t (by omega)
end LEM
/-- both stand at b in a condition -/
def LV (ln : Nat → Nat) (μq μk : Mm) (T : Nat → Nat) (z b f cb s : Nat) (S M : Nat → Nat) (l : List Bool) (dp : Nat) : Prop := QC μq T z b ∧ KC 1 ln μk T z b ∧ EQ μq s S M dp ∧ EK μk f cb s S M ∧ PU f cb s S M l b
/-- both go on, or both tell the same place -/
def LVO (fq fk : Option (Int32 × Mm)) (ln : Nat → Nat) (μq μk : Mm) (T : Nat → Nat) (z b f cb s : Nat) (S M : Nat → Nat) (l' : List Bool) (dp : Nat) : Prop :=
  (∃ aq ak b' s' S' M', fq = some (nI 1, aq) ∧ fk = some (nI 1, ak) ∧ b < b' ∧ LV ln aq ak T z b' f cb s' S' M' l' dp ∧ (s ≤ s' ∧ s' + b ≤ b' + s) ∧ (∀ i, i < s → S' i = S i ∧ M' i = M i) ∧ QL μq aq ∧ FL cb μk ak) ∨
  (∃ aq ak x, fq = some (nI 0, aq) ∧ fk = some (nI 0, ak) ∧ aq (0, 0) 15 = nI x ∧ ak (6, 1) 7 = nI x ∧ QL μq aq ∧ FW μk ak)
section PRT
variable {sh : Sh} {ln : Nat → Nat} {μ a μq μk : Mm} {T : Nat → Nat} {z b b' f cb s dp : Nat} {S M : Nat → Nat} {l l2 : List Bool}
theorem updN_lt {S : Nat → Nat} {s x i : Nat} (h : i < s) : updN S s x i = S i := if_neg (by omega)
/-- a part of a sum -/
theorem v_part (h : LV ln μq μk T z b f cb s S M l dp) (hl : l.length + 1 ≤ 40) :
    (∃ x m aq v, f_X11_readPart μq = some (nI 1, aq) ∧ f_X3_partNext sh ln μk = some (nI v) ∧ b < z ∧ v = cs x m ∧ QC aq T z (nx T z b) ∧ EQ aq (s + 1) (updN S s x) (updN M s m) dp ∧ PU f cb (s + 1) (updN S s x) (updN M s m) (false :: l) (nx T z b) ∧ QL μq aq ∧ v < 2000) ∨
    (∃ aq, f_X11_readPart μq = some (nI 0, aq) ∧ f_X3_partNext sh ln μk = some (-nI 1) ∧ aq (0, 0) 15 = nI b ∧ QL μq aq) := by
  obtain ⟨hQ, hK, hE, hEk, hP⟩ := h
  have hT := hQ.1.2.2.1
  have hz4 := hQ.1.2.1
  have hs : s ≤ 399 := by have h1 := hP.1; have h2 := hP.2.1; omega
  have hlt := KN_lt (z := z) (hT b)
  obtain ⟨a1, e1, qf1, q15, q13, T1, hW, hy, hn⟩ := t_letters hQ
  have E1 := hE.qf qf1
  have ne : ∀ k : Nat, k < 2147483648 → KN T z b ≠ k → ¬ nI (KN T z b) = nI k := fun k hk hne => by rw [q_eq (by omega) hk]; exact hne
  have hpn : f_X3_partNext sh ln μk = (if nI (KN T z b) = (2 : Int32) then some (μk (6, 1) 10) else (if nI (KN T z b) = (316 : Int32) then some (1000 : Int32) else (if nI (KN T z b) = (317 : Int32) then some (1001 : Int32) else (if nI (KN T z b) = (318 : Int32) then some (1002 : Int32) else (if nI (KN T z b) = (319 : Int32) then some (1003 : Int32) else (some (-1 : Int32))))))) := by
    rw [f_X3_partNext, hK.kind]
  by_cases c : b < z ∧ isLe (T b) = true
  · have hnx := nx_ok (T := T) c.1
    have ok := scn_ok (P := isLe) (T := T) (z := z) b
    have heb : b < scn isLe T z b := by
      have := (eot_ok (T := T) c.1).1
      rw [eot_le c.2] at this
      exact this
    have h1315 : ¬ a1 (0, 0) 13 = a1 (0, 0) 15 := by
      rw [q13, q15, q_eq (by have := ok.2.1 (by omega); omega) (by omega)]
      omega
    have Q1 := hy c
    have hn2 : KN T z b ≠ 2 := fun e => by
      have h2 := ((KN_2 (z := z) (hT b)).mp e).2.1
      rw [isDi_i] at h2
      have h3 := c.2
      rw [isLe_i] at h3
      omega
    have hw1 : ∀ w, 5 ≤ w → w < 24 → KN T z b = 296 + w → f_X11_isWord w a1 = some (nI 1) := fun w h5 h24 e => (hW w h5 h24).trans (by rw [decide_eq_true e]; rfl)
    have hw0 : ∀ w, 5 ≤ w → w < 24 → KN T z b ≠ 296 + w → f_X11_isWord w a1 = some (nI 0) := fun w h5 h24 e => (hW w h5 h24).trans (by rw [decide_eq_false e]; rfl)
    have z0 : nI 0 = (0 : Int32) := rfl
    have z1 : ¬ nI 1 = (0 : Int32) := by decide
    have good : ∀ x : Nat, x ≤ 3 → (f_X11_readPart μq = (f_X11_emits a1 (nI x) (0 : Int32)).bind fun x95 => if nI x < 0 then some ((0 : Int32), x95) else (some ((1 : Int32), x95))) → ∃ aq, f_X11_readPart μq = some (nI 1, aq) ∧ QC aq T z (nx T z b) ∧ EQ aq (s + 1) (updN S s x) (updN M s 0) dp ∧ PU f cb (s + 1) (updN S s x) (updN M s 0) (false :: l) (nx T z b) ∧ QL μq aq := by
      intro x hx hr
      obtain ⟨a2, e2, E2, Q2, l2, _⟩ := q_emits E1 hs Q1 x 0 (nI x) (0 : Int32) rfl (fun _ => rfl)
      refine ⟨a2, by rw [hr, e2, Option.bind_some, if_neg (show ¬ nI x < (0 : Int32) from nI_nneg (by omega))]; rfl, Q2, E2, hP.emit (by omega) (by omega) ?_ (by rw [List.length_cons]; exact hl) (by have := hP.1; omega) (by omega), qf1.L.tr l2⟩
      unfold tyN
      rw [if_pos (by omega), if_pos hx]
    by_cases c0 : KN T z b = 316
    · obtain ⟨aq, g1, g2, g3, g4, g5⟩ := good 0 (by omega) (by rw [f_X11_readPart, e1, Option.bind_some, if_neg h1315, hw1 20 (by omega) (by omega) (by omega), Option.bind_some, if_neg z1]; rfl)
      exact Or.inl ⟨0, 0, aq, 1000, g1, by rw [hpn, c0, if_neg (by decide), if_pos (by decide)]; rfl, c.1, rfl, g2, g3, g4, g5, by omega⟩
    · by_cases c1 : KN T z b = 317
      · obtain ⟨aq, g1, g2, g3, g4, g5⟩ := good 1 (by omega) (by rw [f_X11_readPart, e1, Option.bind_some, if_neg h1315, hw0 20 (by omega) (by omega) (by omega), Option.bind_some, if_pos z0, hw1 21 (by omega) (by omega) (by omega), Option.bind_some, if_neg z1]; rfl)
        exact Or.inl ⟨1, 0, aq, 1001, g1, by rw [hpn, c1, if_neg (by decide), if_neg (by decide), if_pos (by decide)]; rfl, c.1, rfl, g2, g3, g4, g5, by omega⟩
      · by_cases c2 : KN T z b = 318
        · obtain ⟨aq, g1, g2, g3, g4, g5⟩ := good 2 (by omega) (by rw [f_X11_readPart, e1, Option.bind_some, if_neg h1315, hw0 20 (by omega) (by omega) (by omega), Option.bind_some, if_pos z0, hw0 21 (by omega) (by omega) (by omega), Option.bind_some, if_pos z0, hw1 22 (by omega) (by omega) (by omega), Option.bind_some, if_neg z1]; rfl)
          exact Or.inl ⟨2, 0, aq, 1002, g1, by rw [hpn, c2, if_neg (by decide), if_neg (by decide), if_neg (by decide), if_pos (by decide)]; rfl, c.1, rfl, g2, g3, g4, g5, by omega⟩
        · by_cases c3 : KN T z b = 319
          · obtain ⟨aq, g1, g2, g3, g4, g5⟩ := good 3 (by omega) (by rw [f_X11_readPart, e1, Option.bind_some, if_neg h1315, hw0 20 (by omega) (by omega) (by omega), Option.bind_some, if_pos z0, hw0 21 (by omega) (by omega) (by omega), Option.bind_some, if_pos z0, hw0 22 (by omega) (by omega) (by omega), Option.bind_some, if_pos z0, hw1 23 (by omega) (by omega) (by omega), Option.bind_some, if_neg z1]; rfl)
            exact Or.inl ⟨3, 0, aq, 1003, g1, by rw [hpn, c3, if_neg (by decide), if_neg (by decide), if_neg (by decide), if_neg (by decide), if_pos (by decide)]; rfl, c.1, rfl, g2, g3, g4, g5, by omega⟩
          · right
            obtain ⟨a2, hem, la2, l15⟩ : ∃ a2, f_X11_emits a1 (-1 : Int32) (0 : Int32) = some a2 ∧ QL a1 a2 ∧ a2 (0, 0) 15 = a1 (0, 0) 15 := by
              obtain ⟨a2, e2, r1, r2⟩ := q_emits0 E1 hs (-1 : Int32) (0 : Int32)
              exact ⟨a2, e2, r1, r2⟩
            refine ⟨a2, ?_, ?_, by rw [l15, q15], qf1.L.tr la2⟩
            · rw [f_X11_readPart, e1, Option.bind_some, if_neg h1315, hw0 20 (by omega) (by omega) (by omega), Option.bind_some, if_pos z0, hw0 21 (by omega) (by omega) (by omega), Option.bind_some, if_pos z0, hw0 22 (by omega) (by omega) (by omega), Option.bind_some, if_pos z0, hw0 23 (by omega) (by omega) (by omega), Option.bind_some, if_pos z0, hem, Option.bind_some, if_pos (by decide)]
              rfl
            · rw [hpn, if_neg (show ¬ _ = (2 : Int32) from ne 2 (by omega) hn2), if_neg (show ¬ _ = (316 : Int32) from ne 316 (by omega) c0), if_neg (show ¬ _ = (317 : Int32) from ne 317 (by omega) c1), if_neg (show ¬ _ = (318 : Int32) from ne 318 (by omega) c2), if_neg (show ¬ _ = (319 : Int32) from ne 319 (by omega) c3)]
              rfl
  · obtain ⟨h13b, Q1⟩ := hn c
    have h1315 : a1 (0, 0) 13 = a1 (0, 0) 15 := by rw [h13b, q15]
    obtain ⟨a2, qf2, q215, qy, qn⟩ := t_number Q1 (0 : Int32) (999 : Int32)
    have E2 := E1.qf qf2
    have hi := okN_lit (T := T) (z := z) (b := b) (lo := 0) (hi := 999) (fun c => nmv_le c) (hT b) (by omega)
    have hnw : ∀ w, 5 ≤ w → w < 24 → KN T z b ≠ 296 + w := fun w h5 h24 e => c ⟨((KN_w (z := z) (hT b) ⟨h5, h24⟩).mp e).1, ((KN_w (z := z) (hT b) ⟨h5, h24⟩).mp e).2.1⟩
    have hr : ∀ v a2, f_X11_number a1 (0 : Int32) (999 : Int32) = some (v, a2) → f_X11_readPart μq = (f_X11_emits a2 (6 : Int32) v).bind fun x28 => if v < 0 then some ((0 : Int32), x28) else (some ((1 : Int32), x28)) := by
      intro v a2 e2
      rw [f_X11_readPart, e1, Option.bind_some, if_pos h1315, e2]
      rfl
    by_cases c2 : KN T z b = 2
    · have h2 := (KN_2 (z := z) (hT b)).mp c2
      have hv9 := nmv_le (T := T) h2.1
      have hnx := nx_ok (T := T) h2.1
      obtain ⟨e2, Q2⟩ := qy (hi.mpr ⟨c2, by omega, hv9⟩)
      obtain ⟨a3, e3, E3, Q3, l3, _⟩ := q_emits E2 hs Q2 6 (nmv T z b) (6 : Int32) (nI (nmv T z b)) rfl (fun _ => rfl)
      left
      refine ⟨6, nmv T z b, a3, nmv T z b, ?_, ?_, h2.1, rfl, Q3, E3, hP.emit (by omega) hv9 rfl (by rw [List.length_cons]; exact hl) (by have := hP.1; omega) (by omega), (qf1.L.tr qf2.L).tr l3, by omega⟩
      · rw [hr _ _ e2, e3, Option.bind_some, if_neg (show ¬ nI (nmv T z b) < (0 : Int32) from nI_nneg (by omega))]
        rfl
      · rw [hpn, c2, if_pos (by decide), hK.num h2.1]
    · right
      have e2 := qn (fun x => c2 (hi.mp x).1)
      obtain ⟨a3, e3, la3, l15⟩ := q_emits0 E2 hs (6 : Int32) (-nI 1)
      refine ⟨a3, ?_, ?_, by rw [l15, q215], (qf1.L.tr qf2.L).tr la3⟩
      · rw [hr _ _ e2, e3, Option.bind_some, if_pos (by decide)]
        rfl
      · have n0 := hnw 20 (by omega) (by omega)
        have n1 := hnw 21 (by omega) (by omega)
        have n2 := hnw 22 (by omega) (by omega)
        have n3 := hnw 23 (by omega) (by omega)
        rw [hpn, if_neg (show ¬ _ = (2 : Int32) from ne 2 (by omega) c2), if_neg (show ¬ _ = (316 : Int32) from ne 316 (by omega) n0), if_neg (show ¬ _ = (317 : Int32) from ne 317 (by omega) n1), if_neg (show ¬ _ = (318 : Int32) from ne 318 (by omega) n2), if_neg (show ¬ _ = (319 : Int32) from ne 319 (by omega) n3)]
        rfl
end PRT
