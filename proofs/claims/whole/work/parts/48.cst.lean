-- what the growing of rows costs: a potential
def SZ : List Nat := [1, 2, 3, 4, 8, 9, 16, 18, 24, 27, 32, 64, 81, 128, 160, 192, 243, 256, 300, 324, 384, 512, 896, 1024, 1215, 2048, 4608]
def psL : List Nat → Nat → Nat
  | [], _ => 0
  | x :: t, L => (if L < x then x else 0) + psL t L
def pcL : List Nat → Nat → Nat
  | [], _ => 0
  | x :: t, L => (if L < x then 1 else 0) + pcL t L
theorem psL_mono {l : List Nat} {a b : Nat} (h : a ≤ b) : psL l b ≤ psL l a := by
  induction l with
  | nil => exact Nat.le_refl _
  | cons x t ih =>
    unfold psL
    by_cases c : b < x
    · rw [if_pos c, if_pos (by omega)]; omega
    · rw [if_neg c]; omega
theorem pcL_mono {l : List Nat} {a b : Nat} (h : a ≤ b) : pcL l b ≤ pcL l a := by
  induction l with
  | nil => exact Nat.le_refl _
  | cons x t ih =>
    unfold pcL
    by_cases c : b < x
    · rw [if_pos c, if_pos (by omega)]; omega
    · rw [if_neg c]; omega
theorem psL_step {l : List Nat} {m L : Nat} (hm : m ∈ l) (h : L < m) : psL l m + m ≤ psL l L := by
  induction l with
  | nil => cases hm
  | cons x t ih =>
    unfold psL
    rcases List.mem_cons.mp hm with e | e
    · subst e
      have := psL_mono (l := t) (Nat.le_of_lt h)
      rw [if_neg (Nat.lt_irrefl m), if_pos h]; omega
    · have := ih e
      by_cases c : m < x
      · rw [if_pos c, if_pos (by omega)]; omega
      · rw [if_neg c]; omega
theorem pcL_step {l : List Nat} {m L : Nat} (hm : m ∈ l) (h : L < m) : pcL l m + 1 ≤ pcL l L := by
  induction l with
  | nil => cases hm
  | cons x t ih =>
    unfold pcL
    rcases List.mem_cons.mp hm with e | e
    · subst e
      have := pcL_mono (l := t) (Nat.le_of_lt h)
      rw [if_neg (Nat.lt_irrefl m), if_pos h]; omega
    · have := ih e
      by_cases c : m < x
      · rw [if_pos c, if_pos (by omega)]; omega
      · rw [if_neg c]; omega
def PC (ln : Nat → Nat) : Nat := smN 70 (fun c => pcL SZ (ln c))
def PS (ln : Nat → Nat) : Nat := smN 70 (fun c => psL SZ (ln c))
theorem smN_one {n c x : Nat} {f g : Nat → Nat} (hc : c < n) (h1 : g c + x ≤ f c) (h2 : ∀ k, k ≠ c → g k = f k) : smN n g + x ≤ smN n f := by
  induction n with
  | zero => omega
  | succ n ih =>
    rw [smN_s, smN_s]
    by_cases e : c = n
    · subst e
      have : smN c g = smN c f := smN_congr (fun k hk => h2 k (by omega))
      omega
    · have := ih (by omega)
      have := h2 n (fun e' => e e'.symm)
      omega
def Cst (ln ln' : Nat → Nat) (kc ks : Nat) : Prop := kc + PC ln' ≤ PC ln ∧ ks + PS ln' ≤ PS ln
/-- rows only grow -/
def GR (d : Nat) (ln ln' : Nat → Nat) (kc ks : Nat) : Prop := Cst ln ln' kc ks ∧ (∀ c, ln c ≤ ln' c) ∧ (∀ c, c < 15 → ln' c = ln c) ∧ (∀ c, ln' c = ln c ∨ ln' c ∈ SZ) ∧ ∀ c, c < 15 + 5 * d ∨ 20 + 5 * d ≤ c → ln' c = ln c
theorem GR.rf {d : Nat} {ln : Nat → Nat} : GR d ln ln 0 0 := ⟨⟨by omega, by omega⟩, fun _ => Nat.le_refl _, fun _ _ => rfl, fun _ => Or.inl rfl, fun _ _ => rfl⟩
theorem GR.tr {d : Nat} {a b c : Nat → Nat} {kc ks kc' ks' : Nat} (h : GR d a b kc ks) (h2 : GR d b c kc' ks') : GR d a c (kc + kc') (ks + ks') := by
  obtain ⟨⟨h1, h3⟩, h4, h5, h6, h7⟩ := h
  obtain ⟨⟨g1, g3⟩, g4, g5, g6, g7⟩ := h2
  refine ⟨⟨by omega, by omega⟩, fun k => Nat.le_trans (h4 k) (g4 k), fun k hk => (g5 k hk).trans (h5 k hk), fun k => ?_, fun k hk => (g7 k hk).trans (h7 k hk)⟩
  rcases g6 k with e | e
  · rcases h6 k with e' | e'
    · exact Or.inl (e.trans e')
    · exact Or.inr (by rw [e]; exact e')
  · exact Or.inr e
/-- the sizes that a State's rows may have -/
def szB (V n : Nat) : Bool := decide (512 < V ^ n) || (SZ.contains (V ^ n) && (decide (n * V ^ n = 0) || SZ.contains (n * V ^ n)))
theorem sz_okB : ∀ V, V < 5 → V < 2 ∨ ∀ n, n < 10 → szB V n = true := by decide +kernel
theorem sz_ok {V n : Nat} (h2 : 2 ≤ V) (h5 : V < 5) (hn : n < 10) (h : V ^ n ≤ 512) : V ^ n ∈ SZ ∧ (n * V ^ n = 0 ∨ n * V ^ n ∈ SZ) := by
  have e := (sz_okB V h5).resolve_left (by omega) n hn
  unfold szB at e
  rw [decide_eq_false (by omega), Bool.false_or, Bool.and_eq_true, Bool.or_eq_true] at e
  refine ⟨List.contains_iff_mem.mp e.1, ?_⟩
  rcases e.2 with e | e
  · exact Or.inl (of_decide_eq_true e)
  · exact Or.inr (List.contains_iff_mem.mp e)
theorem sz_300 : 300 ∈ SZ := by decide +kernel
theorem sz_le : ∀ x, x ∈ SZ → x ≤ 4608 := by decide +kernel
def LB (ln : Nat → Nat) : Prop := ∀ c, 15 ≤ c → ln c = 0 ∨ ln c ∈ SZ
theorem LB.le {ln : Nat → Nat} (h : LB ln) {c : Nat} (hc : 15 ≤ c) : ln c ≤ 4608 := by
  rcases h c hc with e | e
  · omega
  · exact sz_le _ e
theorem LB.gr {dd : Nat} {ln ln' : Nat → Nat} {kc ks : Nat} (h : LB ln) (hG : GR dd ln ln' kc ks) : LB ln' := fun c hc => by
  rcases hG.2.2.2.1 c with e | e
  · rw [e]; exact h c hc
  · exact Or.inr e
theorem LN.gr {dd : Nat} {ln ln' : Nat → Nat} {kc ks : Nat} (h : LN ln) (hG : GR dd ln ln' kc ks) : LN ln' := by
  have e := hG.2.2.1
  unfold LN at *
  rw [e 0 (by omega), e 1 (by omega), e 2 (by omega), e 3 (by omega), e 4 (by omega), e 5 (by omega), e 6 (by omega), e 7 (by omega), e 8 (by omega), e 9 (by omega), e 10 (by omega), e 11 (by omega), e 12 (by omega), e 13 (by omega), e 14 (by omega)]
  exact h
theorem CS.gr {dd : Nat} {ln ln' : Nat → Nat} {kc ks : Nat} {μ : Mm} {j V n N w0 : Nat} {r : Nat → Int32} (h : CS ln μ j V n N w0 r) (hB : LB ln) (hG : GR dd ln ln' kc ks) : CS ln' μ j V n N w0 r := by
  obtain ⟨h1, h2, ⟨⟨g0, g1, g2, g3⟩, g4⟩, h4⟩ := h
  have hB' := hB.gr hG
  have m := hG.2.1
  refine ⟨h1, h2, ⟨⟨Nat.le_trans g0 (m _), Nat.le_trans g1 (m _), Nat.le_trans g2 (m _), Nat.le_trans g3 (m _)⟩, fun i hi => ?_⟩, h4⟩
  have := hB'.le (c := 15 + 5 * j + i) (by omega)
  omega
theorem k_growA {sh : Sh} {ln : Nat → Nat} {c m dd : Nat} {μ : Mm} (hc : 15 ≤ c ∧ c < 70) (hd : 15 + 5 * dd ≤ c ∧ c < 20 + 5 * dd) (hl : ln c ≤ 4608) (hm : m ≤ ln c ∨ m ∈ SZ) :
    ∃ ln' a kc ks, f_X1_growA sh ln c μ (nI m) = some ((0, ln', a), kc, ks) ∧ GR dd ln ln' kc ks ∧ m ≤ ln' c ∧ FrC (fun x => x = c) μ a ∧ ∀ i, i < ln c → a (12, c) i = μ (12, c) i := by
  have hm4 : m ≤ 4608 := by
    rcases hm with h | h
    · omega
    · exact sz_le m h
  unfold f_X1_growA ce
  rw [if_pos (show ln c < 2 ^ 31 by omega)]
  have hq : (nI m ≤ nI (ln c)) = (m ≤ ln c) := q_le (by omega) (by omega)
  by_cases h : m ≤ ln c
  · rw [if_pos (hq.mpr h)]
    exact ⟨ln, μ, 0, 0, rfl, GR.rf, h, FrC.rf, fun i _ => rfl⟩
  · have hs : m ∈ SZ := hm.resolve_left h
    rw [if_neg (fun e => h (hq.mp e)), q_cl (by omega), if_pos (by omega)]
    refine ⟨upn ln c m, gro μ c (ln c), 1, m, rfl, ⟨⟨?_, ?_⟩, fun k => ?_, fun k hk => if_neg (by omega), fun k => ?_, fun k hk => if_neg (by omega)⟩, ?_, ?_, ?_⟩
    · have := smN_one (n := 70) (c := c) (x := 1) (f := fun k => pcL SZ (ln k)) (g := fun k => pcL SZ (upn ln c m k)) (by omega) (by
        show pcL SZ (upn ln c m c) + 1 ≤ pcL SZ (ln c)
        rw [show upn ln c m c = m from if_pos rfl]
        exact pcL_step hs (by omega)) (fun k hk => by
        show pcL SZ (upn ln c m k) = pcL SZ (ln k)
        rw [show upn ln c m k = ln k from if_neg hk])
      show 1 + PC (upn ln c m) ≤ PC ln
      unfold PC
      omega
    · have := smN_one (n := 70) (c := c) (x := m) (f := fun k => psL SZ (ln k)) (g := fun k => psL SZ (upn ln c m k)) (by omega) (by
        show psL SZ (upn ln c m c) + m ≤ psL SZ (ln c)
        rw [show upn ln c m c = m from if_pos rfl]
        exact psL_step hs (by omega)) (fun k hk => by
        show psL SZ (upn ln c m k) = psL SZ (ln k)
        rw [show upn ln c m k = ln k from if_neg hk])
      show m + PS (upn ln c m) ≤ PS ln
      unfold PS
      omega
    · unfold upn
      by_cases e : k = c
      · subst e; rw [if_pos rfl]; omega
      · rw [if_neg e]; exact Nat.le_refl _
    · unfold upn
      by_cases e : k = c
      · subst e; rw [if_pos rfl]; exact Or.inr hs
      · rw [if_neg e]; exact Or.inl rfl
    · unfold upn; rw [if_pos rfl]; exact Nat.le_refl _
    · intro q hq
      unfold gro mro
      exact if_neg (fun e => hq (by subst e; exact ⟨rfl, rfl⟩))
    · intro i hi
      unfold gro mro cpz va_cpy
      rw [if_pos rfl, if_pos ⟨by omega, by omega⟩, Nat.sub_zero, Nat.zero_add]
theorem addc_some {X : Type} {c s k z : Nat} {y : X} : addc c s (some (y, k, z)) = some (y, c + k, s + z) := rfl
/-- what an act leaves of all else: the State j's fields 0 .. 13 and other States -/
def FrS (j : Nat) (μ a : Mm) : Prop := (∀ q : Ky, q ≠ (5, 0) → ¬ (q.1 = 12 ∧ 1 ≤ q.2 ∧ q.2 < 15) → ¬ (q.1 = 12 ∧ 15 + 5 * j ≤ q.2 ∧ q.2 < 20 + 5 * j) → q ≠ (13, j) → a q = μ q)
theorem FrS.rf {j : Nat} {μ : Mm} : FrS j μ μ := fun _ _ _ _ _ => rfl
theorem FrS.tr {j : Nat} {μ a b : Mm} (h : FrS j μ a) (h2 : FrS j a b) : FrS j μ b := fun q e0 e1 e2 e3 => (h2 q e0 e1 e2 e3).trans (h q e0 e1 e2 e3)
theorem FrX.S {j : Nat} {μ a : Mm} (h : FrX μ a) : FrS j μ a := fun q e0 e1 _ _ => h q e0 e1
theorem FrC.S {j : Nat} {P : Nat → Prop} {μ a : Mm} (h : FrC P μ a) (hP : ∀ c, P c → (1 ≤ c ∧ c < 15) ∨ (15 + 5 * j ≤ c ∧ c < 20 + 5 * j)) : FrS j μ a := fun q _ e1 e2 _ => h q (fun x => by
  rcases hP _ x.2 with y | y
  · exact e1 ⟨x.1, y⟩
  · exact e2 ⟨x.1, y⟩)
/-- a State is that of the row -/
def STR (sh : Sh) (ln : Nat → Nat) (μ : Mm) (j V n N w0 : Nat) (r : Nat → Int32) (Λo : Option LW) : Prop :=
  CS ln μ j V n N w0 r ∧ LG ln μ j r ∧ LRk sh μ j Λo ∧ LRw r Λo ∧ μ (13, j) 4 = r 4 ∧ μ (13, j) 5 = r 5 ∧ μ (13, j) 6 = r 2 ∧ μ (13, j) 7 = bI (decide (¬ (r 7 = nI 0 ∧ r 8 = nI 0)))
/-- rows of the reference alike but for what acts change -/
def SL (r r' : Nat → Int32) : Prop := r' 2 = r 2 ∧ r' 3 = r 3 ∧ r' 5 = r 5 ∧ r' 7 = r 7 ∧ r' 8 = r 8 ∧ ∀ i, 5440 ≤ i → r' i = r i
theorem SL.rf {r : Nat → Int32} : SL r r := ⟨rfl, rfl, rfl, rfl, rfl, fun _ _ => rfl⟩
theorem SL.tr {r a b : Nat → Int32} (h : SL r a) (h2 : SL a b) : SL r b := ⟨h2.1.trans h.1, h2.2.1.trans h.2.1, h2.2.2.1.trans h.2.2.1, h2.2.2.2.1.trans h.2.2.2.1, h2.2.2.2.2.1.trans h.2.2.2.2.1, fun i hi => (h2.2.2.2.2.2 i hi).trans (h.2.2.2.2.2 i hi)⟩
theorem LRw.sl {r r' : Nat → Int32} {Λo : Option LW} (h : LRw r Λo) (hS : SL r r') : LRw r' Λo := by
  cases Λo with
  | none => show r' 3 = nI 0; rw [hS.2.1]; exact h
  | some Λ =>
    obtain ⟨h1, h2, h3⟩ := h
    refine ⟨by rw [hS.2.1]; exact h1, ?_, h3⟩
    have e := hS.2.2.2.2.2
    refine ⟨by rw [e _ (by omega)]; exact h2.1, fun k hk => ?_, fun i hi => ?_⟩
    · rw [e _ (by omega), e _ (by omega), e _ (by omega)]; exact h2.2.1 k hk
    · rw [e _ (by omega), e _ (by omega)]; exact h2.2.2 i hi
theorem SL.tel {r : Nat → Int32} {a b c d e : Int32} : SL r (tel a b c d e r) := ⟨tel_ne (by omega) (by omega), tel_ne (by omega) (by omega), tel_ne (by omega) (by omega), tel_ne (by omega) (by omega), tel_ne (by omega) (by omega), fun i hi => tel_ne (by omega) (by omega)⟩
theorem SL.rlr {r : Nat → Int32} {o : Nat → Nat} {p N : Nat} (hp : p < 9) (hN : N ≤ 512) : SL r (rlr o p N r) := ⟨rlr_ne (by omega), rlr_ne (by omega), rlr_ne (by omega), rlr_ne (by omega), rlr_ne (by omega), fun i hi => rlr_ne (by omega)⟩
theorem SL.rpt {r : Nat → Int32} {cm : Nat → Nat} {p N : Nat} (hp : p < 9) (hN : N ≤ 512) : SL r (rpt cm N p r) := SL.rlr hp hN
theorem SL.drp {r c : Nat → Int32} {m w0 : Nat} (hm : m ≤ 512) : SL r (drp c m w0 r) := ⟨drp_ne (by omega), drp_ne (by omega), drp_ne (by omega), drp_ne (by omega), drp_ne (by omega), fun i hi => drp_ne (by omega)⟩
theorem SL.rse {r : Nat → Int32} {p q : Nat} (hp : p < 9) : SL r (rse p q r) := ⟨rse_ne (by omega), rse_ne (by omega), rse_ne (by omega), rse_ne (by omega), rse_ne (by omega), fun i hi => rse_ne (by omega)⟩
/-- the log keeps through what does not touch it -/
theorem LG.kp {ln : Nat → Nat} {μ a : Mm} {j : Nat} {r r' : Nat → Int32} (h : LG ln μ j r) (e13 : a (13, j) 14 = μ (13, j) 14 ∧ a (13, j) 15 = μ (13, j) 15) (e12 : a (12, 15 + 5 * j + 4) = μ (12, 15 + 5 * j + 4)) (e9 : r' 9 = r 9) (eL : ∀ i, 5140 ≤ i → i < 5440 → r' i = r i) (h60 : lgd r ≤ 60) : LG ln a j r' := by
  have el : lgd r' = lgd r := by unfold lgd; rw [e9]
  obtain ⟨h1, t, ht, h2, h3, h4⟩ := h
  unfold LG
  rw [el, e13.1, e13.2, e12]
  exact ⟨h1, t, ht, h2, h3, fun i c hi hc => by rw [eL _ (by omega) (by omega)]; exact h4 i c hi hc⟩
theorem LG.gr {dd : Nat} {ln ln' : Nat → Nat} {kc ks : Nat} {μ : Mm} {j : Nat} {r : Nat → Int32} (h : LG ln μ j r) (hG : GR dd ln ln' kc ks) : LG ln' μ j r := by
  obtain ⟨h1, t, ht, h2, h3, h4⟩ := h
  refine ⟨h1, t, ht, h2, ?_, h4⟩
  rcases h3 with h3 | h3
  · exact Or.inl h3
  · exact Or.inr (Nat.le_trans h3 (hG.2.1 _))
theorem STR.gr {sh : Sh} {dd : Nat} {ln ln' : Nat → Nat} {kc ks : Nat} {μ : Mm} {j V n N w0 : Nat} {r : Nat → Int32} {Λo : Option LW} (h : STR sh ln μ j V n N w0 r Λo) (hB : LB ln) (hG : GR dd ln ln' kc ks) : STR sh ln' μ j V n N w0 r Λo := ⟨h.1.gr hB hG, h.2.1.gr hG, h.2.2⟩
