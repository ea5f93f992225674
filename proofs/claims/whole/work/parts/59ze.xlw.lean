-- a text of the law
/-- what a text of the law leaves of the class's memory -/
def FrL (j i : Nat) (μ a : Mm) : Prop := ∀ q : Ky, q ≠ (0, 0) → q ≠ (2, 0) → ¬ (6 ≤ q.1 ∧ q.1 < 11) → q ≠ (13, j) → q ≠ (14, i) → q ≠ (15, i) → a q = μ q
/-- the laws that there are stay -/
theorem LRk.oL {sh sh' : Sh} {μ a : Mm} {j i : Nat} {Λo : Option LW} (h : LRk sh μ j Λo) (hi : sh 4 2 = i) (e8 : a (13, j) 8 = μ (13, j) 8) (eL : ∀ q : Ky, (q.1 = 14 ∨ q.1 = 15) → q.2 < i → a q = μ q) (h4 : i ≤ sh' 4 2) (h1 : ∀ x, x < i → sh' 1 x = sh 1 x) : LRk sh' a j Λo := by
  unfold LRk at *
  cases Λo with
  | none => rw [e8]; exact h
  | some Λ =>
    obtain ⟨x, b, g1, g2, g3, g4, g5⟩ := h
    refine ⟨x, b, by rw [e8]; exact g1, by omega, g3, ?_, g5⟩
    unfold LWk at *
    rw [eL (14, x) (Or.inl rfl) (by show x < i; omega), eL (15, x) (Or.inr rfl) (by show x < i; omega), h1 x (by omega)]
    exact g4
theorem STR.oL {sh sh' : Sh} {ln : Nat → Nat} {μ a : Mm} {j j0 i V n N w0 : Nat} {r : Nat → Int32} {Λo : Option LW} (h : STR sh ln μ j0 V n N w0 r Λo) (hF : FrL j i μ a) (hne : j0 ≠ j) (hi : sh 4 2 = i) (h4 : i ≤ sh' 4 2) (h1 : ∀ x, x < i → sh' 1 x = sh 1 x) : STR sh' ln a j0 V n N w0 r Λo := by
  have e13 : a (13, j0) = μ (13, j0) := hF _ (by simp) (by simp) (fun y => by have := y.2; simp at this) (fun y => hne (congrArg Prod.snd y)) (by simp) (by simp)
  have e12 : ∀ k, a (12, k) = μ (12, k) := fun k => hF _ (by simp) (by simp) (fun y => by have := y.2; simp at this) (by simp) (by simp) (by simp)
  obtain ⟨g1, g2, g3, g4, g5⟩ := h
  refine ⟨g1.to g1.1 Sam.rf (fun i hi => by rw [e13]) (fun i hi => e12 _), g2.kp (by rw [e13]; exact ⟨rfl, rfl⟩) (e12 _) rfl (fun _ _ _ => rfl) g1.1.hlg.2, g3.oL hi (by rw [e13]) (fun q hq hqi => hF q (fun y => by rw [y] at hq; simp at hq) (fun y => by rw [y] at hq; simp at hq) (fun y => by omega) (fun y => by rw [y] at hq; simp at hq) (fun y => by rw [y] at hqi; exact absurd hqi (Nat.lt_irrefl _)) (fun y => by rw [y] at hqi; exact absurd hqi (Nat.lt_irrefl _))) h4 h1, g4, ?_⟩
  rw [e13]
  exact g5
section XLW
variable {sh : Sh} {ln : Nat → Nat} {μq μk : Mm} {T : Nat → Nat} {z j V n N w0 i : Nat} {r : Nat → Int32} {Λo : Option LW}
/-- the row behind a text of the law -/
def lawR (ρ : Nat → Int32) : Nat → Int32 := upd (fun k => if 5440 ≤ k ∧ k < 6277 then ρ (k + 837) else ρ k) 3 (nI 1)
theorem x_law (hR : RS μq V n N w0 r) (hS : STR sh ln μk j V n N w0 r Λo) (hj : NW sh μk j) (hL : LN ln) (hT : TP μq μk T z) (hi : sh 4 2 = i) (hi2 : i + 2 < 2147483647) :
    (∃ m aq ak sh' kc ks Λ r', f_X11_law μq = some (nI m, aq) ∧ g_X10_law sh ln μk = some ((.inl (nI m), sh', ak), kc, ks) ∧ kc ≤ 2 ∧ ks ≤ 514 ∧ (∃ n', n' ≤ 512 ∧ sh' = shs (shs sh 4 2 (i + 1)) 1 i n') ∧ RS aq V n N w0 r' ∧ (∀ k, k < 5440 → k ≠ 3 → r' k = r k) ∧ STR sh' ln ak j V n N w0 r' (some Λ) ∧ (∀ q : Ky, q ≠ (0, 0) → q ≠ (1, 0) → aq q = μq q) ∧ FrL j i μk ak ∧
      (aq (0, 0) 0 = nI 0 ∧ aq (0, 0) 7 = nI 0 ∧ aq (0, 0) 12 = nI 0 ∧ aq (0, 0) 17 = -nI 1 ∧ ∀ x, x ≠ 0 → x ≠ 7 → x ≠ 12 → x ≠ 13 → x ≠ 14 → x ≠ 15 → x ≠ 16 → x ≠ 17 → x ≠ 21 → aq (0, 0) x = μq (0, 0) x) ∧
      ak (0, 0) 8 = nI 0 ∧ ak (0, 0) 12 = -nI 1 ∧ (∀ x, x ≠ 8 → x ≠ 12 → ak (0, 0) x = μk (0, 0) x) ∧ ak (2, 0) = upd (μk (2, 0)) 1 (nI 0)) ∨
    (∃ x aq ak r', f_X11_law μq = some (nI 0, aq) ∧ g_X10_law sh ln μk = some ((.inr 3, sh, ak), 0, 0) ∧ RS aq V n N w0 r' ∧ (∀ k, k < 6277 → r' k = r k) ∧ (∀ q : Ky, q ≠ (0, 0) → q ≠ (1, 0) → aq q = μq q) ∧ (∀ q : Ky, q ≠ (0, 0) → q ≠ (2, 0) → ¬ (6 ≤ q.1 ∧ q.1 < 11) → ak q = μk q) ∧
      (aq (0, 0) 0 = nI 1 ∧ aq (0, 0) 7 = μq (0, 0) 7 ∧ aq (0, 0) 12 = nI 0 ∧ aq (0, 0) 17 = x ∧ ∀ x, x ≠ 0 → x ≠ 12 → x ≠ 13 → x ≠ 14 → x ≠ 15 → x ≠ 16 → x ≠ 17 → x ≠ 21 → aq (0, 0) x = μq (0, 0) x) ∧
      ak (0, 0) 12 = x ∧ (∀ x, x ≠ 12 → ak (0, 0) x = μk (0, 0) x) ∧ ak (2, 0) = upd (μk (2, 0)) 1 (nI 0)) := by
  obtain ⟨hz, h256, t2, t12, tk12, tq11⟩ := hT
  have hb := hR.2.b
  have cej : ∀ {X : Type} (x : Option X), ce (sh 2 j = 1) x = x := fun x => by unfold ce; rw [if_pos hj.2.2]
  -- the class, up to the lines
  obtain ⟨m0, hm0⟩ : ∃ m0, m0 = mst μk (2, 0) 1 (0 : Int32) := ⟨_, rfl⟩
  have hm0r : m0 = mrow μk (2, 0) (upd (μk (2, 0)) 1 (nI 0)) := by rw [hm0, mst_row]; rfl
  obtain ⟨m2, e2, k2, p2, w2, K2⟩ := k_open1 (sh := sh) (ln := ln) (μ := m0) (T := T) (z := z) (fun i hi => by rw [hm0r, mrow_neA (by omega)]; exact tk12 i hi) h256 hz hL.1
  obtain ⟨m3, hm3⟩ : ∃ m3, m3 = mst m2 (6, 1) 12 (0 : Int32) := ⟨_, rfl⟩
  have hm3r : m3 = mrow m2 (6, 1) (upd (m2 (6, 1)) 12 (nI 0)) := by rw [hm3, mst_row]; rfl
  have K3 : KC 1 ln m3 T z (nb T z 0) := by rw [hm3r]; exact K2.to (fun q hq _ => mrow_ne hq) (fun i _ _ _ h12 => by rw [mrow_self, q_upd, if_neg (by omega)])
  have k3 : ∀ q : Ky, ¬ (6 ≤ q.1 ∧ q.1 < 10) → q ≠ (2, 0) → m3 q = μk q := fun q hq h2 => by
    rw [hm3r, mrow_ne (fun y => by rw [y] at hq; simp at hq), k2 q (fun y => by rw [y] at hq; simp at hq) (fun y => by rw [y] at hq; simp at hq) (fun y => by rw [y] at hq; simp at hq) (fun y => by rw [y] at hq; simp at hq), hm0r, mrow_ne h2]
  have k32 : m3 (2, 0) = upd (μk (2, 0)) 1 (nI 0) := by
    rw [hm3r, mrow_ne (by simp), k2 _ (by simp) (by simp) (by simp) (by simp), hm0r, mrow_self]
  have w3 : m3 (6, 1) 7 = -nI 1 := by rw [hm3r, mrow_self, q_upd, if_neg (by omega)]; exact w2
  obtain ⟨μ1, o1, ⟨o2, o3, o4⟩, hLO⟩ := v_lawall (sh := sh) (ln := ln) (μq := μq) (μk := m3) t12 hz h256 tq11 K3 (by rw [hm3r, mrow_self, q_upd, if_pos rfl])
  have hclass : g_X10_law sh ln μk = ((f_X8_readLines_1 sh ln m3 (12 : Int32)).bind fun x22 => (f_X8_wrong_1 sh ln x22.2).bind fun x30 => if x22.1 = (-1 : Int32) then some ((.inr 3, sh, mst x22.2 (0, 0) 12 x30), 0, 0) else
    (ce (sh 2 (((mst x22.2 (0, 0) 12 x30) (0, 0) 9).toNatClampNeg) = 1) ((f_X3_madeO sh ln (mst x22.2 (0, 0) 12 x30) x22.1).bind fun x55 => addc x55.2.1 x55.2.2 ((f_X10_forgetPast x55.1.2.1 ln (mst x55.1.2.2 (13, ((mst x22.2 (0, 0) 12 x30) (0, 0) 9).toNatClampNeg) 8 (nI (x55.1.1 + 1)))).bind fun x62 => some ((.inl x22.1, x55.1.2.1, x62), 0, 0))))) := by
    rw [g_X10_law, f_X7_use, Option.bind_some, t2]
    show ((f_X8_open_1 sh ln (mst μk (2, 0) 1 (0 : Int32)) (nI z)).bind _) = _
    rw [← hm0, e2, Option.bind_some, f_X3_startAnew, Option.bind_some, ← hm3]
  rcases hLO with ⟨m, aq, ak, b, s, S, M, A, F, B, f1, f2', hLT, qw, fv⟩ | ⟨aq, ak, x, f1, f2', f15, f7, qw, fw⟩
  · left
    obtain ⟨Q4, K4, E4, k12, R4, C4, P4⟩ := hLT
    obtain ⟨p1, p2', p3, p4, p5, p6, p7, p8, p9, p10, p11⟩ := P4
    have aw : ak (6, 1) 7 = -nI 1 := by rw [fv.2 7 (by omega)]; exact w3
    have a0 : ak (0, 0) = μk (0, 0) := by rw [fv.1 _ (by simp) (by simp), k3 _ (by simp) (by simp)]
    have a9 : (ak (0, 0) 9) = nI j := by rw [a0]; exact hj.1
    have hm1 : ¬ nI m = (-1 : Int32) := by
      intro e
      have : ∀ m, m < 15 → ¬ nI m = (-1 : Int32) := by decide
      exact this m (by omega) e
    have m0' : (0 : Int32) ≤ nI m := nI_le (a := 0) (by omega) (by omega)
    -- the law
    obtain ⟨Λ, hΛ⟩ : ∃ Λ : LW, Λ = (m, A, F, S, M) := ⟨_, rfl⟩
    have hΛt : LWt Λ := by
      rw [hΛ]
      have ety : ∀ k t, tyR (m, A, F, S, M) k t = tyS S (F k) t := fun k t => by
        induction t with
        | zero => rfl
        | succ t ih =>
          show (tyR (m, A, F, S, M) k t).bind (tyN (S (F k + t))) = (tyS S (F k) t).bind (tyN (S (F k + t)))
          rw [ih]
      refine ⟨p3, p4, by show F m ≤ 400; omega, p9, fun i hi => p10 i (by have : i < F m := hi; omega), fun k hk => ?_⟩
      refine ⟨(ety k _).trans (p11 k hk).1, fun t ht => ?_⟩
      obtain ⟨l, g1, g2⟩ := (p11 k hk).2 t ht
      exact ⟨l, (ety k t).trans g1, g2⟩
    -- the class behind the text
    obtain ⟨b0, hb0⟩ : ∃ b0, b0 = mst ak (0, 0) 12 (-nI 1) := ⟨_, rfl⟩
    have b0r : b0 = mrow ak (0, 0) (upd (ak (0, 0)) 12 (-nI 1)) := by rw [hb0, mst_row]
    have b09 : (b0 (0, 0) 9).toNatClampNeg = j := by rw [b0r, mrow_self, q_upd, if_neg (by omega), a9, q_cl (by have := hj.2.1; omega)]
    have hBm : B m < 512 := by omega
    have b612 : b0 (6, 1) 12 = nI (B m) := by rw [b0r, mrow_neA (by omega)]; exact k12
    have emn : madeN b0 = nI (B m) := by
      unfold madeN
      rw [b612]
      have q1 : ¬ (512 : Int32) < nI (B m) := by rw [show (512 : Int32) = nI 512 from rfl, q_lt (by omega) (by omega)]; omega
      rw [if_neg q1]
      by_cases c : B m = 0
      · rw [c]; rfl
      · rw [if_pos (show (0 : Int32) < nI (B m) from nI_lt (a := 0) (by omega) (by omega))]
    obtain ⟨sh', hsh'⟩ : ∃ sh', sh' = shs (shs sh 4 2 (i + 1)) 1 i (B m) := ⟨_, rfl⟩
    obtain ⟨b1, hb1⟩ : ∃ b1, b1 = mrow (mrow b0 (15, i) (cpz (b0 (10, 0)) (B m))) (14, i) (fun x => if x = 1 then nI m else 0) := ⟨_, rfl⟩
    have emade : f_X3_madeO sh ln b0 (nI m) = some ((i, sh', b1), 2, B m + 2) := by
      rw [f_X3_madeO, emn, q_cl (by omega), hi, hsh', hb1]
      unfold ce
      rw [if_pos (by omega)]
    have s2 : ∀ x, sh' 2 x = sh 2 x := fun x => by rw [hsh']; unfold shs; rw [if_neg (by omega), if_neg (by omega)]
    have s42 : sh' 4 2 = i + 1 := by rw [hsh']; unfold shs; rw [if_neg (by omega), if_pos ⟨rfl, rfl⟩]
    have s1i : sh' 1 i = B m := by rw [hsh']; unfold shs; rw [if_pos ⟨rfl, rfl⟩]
    have s1o : ∀ x, x < i → sh' 1 x = sh 1 x := fun x hx => by rw [hsh']; unfold shs; rw [if_neg (by omega), if_neg (by omega)]
    obtain ⟨b2, hb2⟩ : ∃ b2, b2 = mst b1 (13, j) 8 (nI (i + 1)) := ⟨_, rfl⟩
    obtain ⟨b3, hb3⟩ : ∃ b3, b3 = mst b2 (0, 0) 8 (0 : Int32) := ⟨_, rfl⟩
    have hk3 : g_X10_law sh ln μk = some ((.inl (nI m), sh', b3), 2 + 0, B m + 2 + 0) := by
      rw [hclass, f2', Option.bind_some]
      show ((f_X8_wrong_1 sh ln ak).bind fun x30 => _) = _
      rw [f_X8_wrong_1, Option.bind_some, aw]
      show (if nI m = (-1 : Int32) then _ else (ce (sh 2 (((mst ak (0, 0) 12 (-nI 1)) (0, 0) 9).toNatClampNeg) = 1) ((f_X3_madeO sh ln (mst ak (0, 0) 12 (-nI 1)) (nI m)).bind fun x55 => addc x55.2.1 x55.2.2 ((f_X10_forgetPast x55.1.2.1 ln (mst x55.1.2.2 (13, ((mst ak (0, 0) 12 (-nI 1)) (0, 0) 9).toNatClampNeg) 8 (nI (x55.1.1 + 1)))).bind fun x62 => some (((Sum.inl (nI m) : Int32 ⊕ Nat), x55.1.2.1, x62), 0, 0))))) = _
      rw [if_neg hm1, ← hb0, b09, cej, emade, Option.bind_some]
      show addc 2 (B m + 2) ((f_X10_forgetPast sh' ln (mst b1 (13, j) 8 (nI (i + 1)))).bind fun x62 => some (((Sum.inl (nI m) : Int32 ⊕ Nat), sh', x62), 0, 0)) = _
      rw [← hb2, f_X10_forgetPast, Option.bind_some, ← hb3]
      rfl
    have b3k : ∀ q : Ky, q ≠ (0, 0) → q ≠ (13, j) → q ≠ (14, i) → q ≠ (15, i) → b3 q = ak q := fun q g0 g13 g14 g15 => by rw [hb3, mst_row, mrow_ne g0, hb2, mst_row, mrow_ne g13, hb1, mrow_ne g14, mrow_ne g15, b0r, mrow_ne g0]
    have b30 : ∀ x, b3 (0, 0) x = if x = 8 then nI 0 else if x = 12 then -nI 1 else μk (0, 0) x := fun x => by
      rw [hb3, mst_row, mrow_self, q_upd, hb2, mst_row, mrow_neA (by omega), hb1, mrow_neA (by omega), mrow_neA (by omega), b0r, mrow_self, q_upd, a0]
      rfl
    have b313 : ∀ x, b3 (13, j) x = if x = 8 then nI (i + 1) else μk (13, j) x := fun x => by
      rw [hb3, mst_row, mrow_neA (by omega), hb2, mst_row, mrow_self, q_upd, hb1, mrow_neA (by omega), mrow_neA (by omega), b0r, mrow_neA (by omega), fv.1 _ (by simp) (by simp), k3 _ (by simp) (by simp)]
    have b314 : b3 (14, i) = fun x => if x = 1 then nI m else 0 := by
      rw [hb3, mst_row, mrow_neA (by omega), hb2, mst_row, mrow_neA (by omega), hb1, mrow_self]
    have b315 : ∀ x, x < B m → b3 (15, i) x = ak (10, 0) x := fun x hx => by
      rw [hb3, mst_row, mrow_neA (by omega), hb2, mst_row, mrow_neA (by omega), hb1, mrow_neA (by omega), mrow_self, b0r, mrow_neA (by omega)]
      unfold cpz va_cpy
      rw [if_pos ⟨by omega, by omega⟩, Nat.sub_zero, Nat.zero_add]
    have hLWk : LWk sh' b3 i Λ B := by
      rw [hΛ]
      refine ⟨s1i, by show B m ≤ 512; omega, p6, by rw [b314]; rfl, fun k hk => ?_⟩
      have hk' : k < m := hk
      obtain ⟨c1, c2, c3, c4, c5⟩ := C4 k hk'
      have hbk := (p8 (k + 1) (by omega)).2
      have c1' : B (k + 1) = B k + (F (k + 1) - F k) + (if F k = F (k + 1) then 1 else 0) + 2 := c1
      refine ⟨c1, fun t ht => ?_, fun e => ?_, ?_, ?_⟩
      · have ht' : t < F (k + 1) - F k := ht
        rw [b315 _ (by omega)]
        exact c2 t ht
      · rw [b315 _ (by omega)]
        exact c3 e
      · have hx : B k + (F (k + 1) - F k) + (if F k = F (k + 1) then 1 else 0) < B m := by omega
        exact (b315 _ hx).trans c4
      · have hx : B k + (F (k + 1) - F k) + (if F k = F (k + 1) then 1 else 0) + 1 < B m := by omega
        exact (b315 _ hx).trans c5
    -- the reference behind the text
    obtain ⟨q1, hq1⟩ : ∃ q1, q1 = mst aq (0, 0) 17 (-1 : Int32) := ⟨_, rfl⟩
    have q1r : q1 = mrow aq (0, 0) (upd (aq (0, 0)) 17 (-nI 1)) := by rw [hq1, mst_row]; rfl
    obtain ⟨ρ, hρ⟩ : ∃ ρ, ρ = upd (aq (1, 0)) 6277 (nI m) := ⟨_, rfl⟩
    have q1ρ : mst q1 (1, 0) (6277 : Int32).toNatClampNeg (nI m) = mrow q1 (1, 0) ρ := by
      rw [show (6277 : Int32).toNatClampNeg = 6277 by decide +kernel, mst_row, q1r, mrow_neA (by omega), hρ]
    have hlow : ∀ x, x < 6277 → ρ x = r x := fun x hx => by rw [hρ, q_upd, if_neg (by omega), qw.2.2 x hx, o1 _ (by simp), hR.1]
    obtain ⟨q2, hq2⟩ : ∃ q2, q2 = mrow (mrow q1 (1, 0) (lawR ρ)) (0, 0) (upd (q1 (0, 0)) 7 (nI 0)) := ⟨_, rfl⟩
    have hq : f_X11_law μq = some (nI m, q2) := by
      rw [f_X11_law, f1, Option.bind_some]
      show (if (0 : Int32) ≤ nI m then if (0 : Int32) ≤ nI m then f_X11_law_J32 (mst aq (0, 0) 17 (-1 : Int32)) (nI m) (0 : Int32) else _ else _) = _
      rw [if_pos m0', if_pos m0', ← hq1, f_X11_law_J32, show f_X11_throwsIf q1 (0 : Int32) (1 : Int32) = some (nI 0, q1) from q_thr0, Option.bind_some, if_pos (show (nI 0, q1).1 = 0 from rfl), show ck 7114 (6277 : Int32) = ck 7114 (nI 6277) from rfl, ckL (by omega)]
      show Wh (fun z : Mm × Int32 => f_X11_law_L52 (nI m) z.1 z.2) ((mst q1 (1, 0) (6277 : Int32).toNatClampNeg (nI m)), (0 : Int32)) = _
      rw [q1ρ]
      refine Wh_it 837 (fun k => (mrow q1 (1, 0) (fun x => if 5440 ≤ x ∧ x < 5440 + k then ρ (x + 837) else ρ x), nI k)) ?_ (fun k hk => ?_) ?_
      · have : (fun x => if 5440 ≤ x ∧ x < 5440 + 0 then ρ (x + 837) else ρ x) = ρ := by funext x; exact if_neg (by omega)
        rw [this]; rfl
      · show f_X11_law_L52 (nI m) (mrow q1 (1, 0) (fun x => if 5440 ≤ x ∧ x < 5440 + k then ρ (x + 837) else ρ x)) (nI k) = _
        have ev : (if 5440 ≤ 6277 + k ∧ 6277 + k < 5440 + k then ρ (6277 + k + 837) else ρ (6277 + k)) = ρ (5440 + k + 837) := by rw [if_neg (by omega)]; congr 1; omega
        have ec : upd (fun x => if 5440 ≤ x ∧ x < 5440 + k then ρ (x + 837) else ρ x) (5440 + k) (ρ (5440 + k + 837)) = fun x => if 5440 ≤ x ∧ x < 5440 + (k + 1) then ρ (x + 837) else ρ x := by
          funext x
          rw [q_upd]
          by_cases e : x = 5440 + k
          · rw [if_pos e, if_pos (by omega), e]
          · rw [if_neg e]
            by_cases c : 5440 ≤ x ∧ x < 5440 + k
            · rw [if_pos c, if_pos (by omega)]
            · rw [if_neg c, if_neg (by omega)]
        rw [f_X11_law_L52, if_neg (by rw [show (837 : Int32) = nI 837 from rfl, q_le (by omega) (by omega)]; omega), show (6277 : Int32) = nI 6277 from rfl, show (5440 : Int32) = nI 5440 from rfl, nI_add, nI_add, ckL (by omega), ckL (by omega), q_cl (by omega), q_cl (by omega), mrow_self, ev, mst_row, mrow_mrow, mrow_self, ec, show (1 : Int32) = nI 1 from rfl, nI_add]
      · show f_X11_law_L52 (nI m) (mrow q1 (1, 0) (fun x => if 5440 ≤ x ∧ x < 5440 + 837 then ρ (x + 837) else ρ x)) (nI 837) = _
        rw [f_X11_law_L52, if_pos (show (837 : Int32) ≤ nI 837 from Int32.le_refl _), show ck 7114 (3 : Int32) = ck 7114 (nI 3) from rfl, ckL (by omega), mst_row, mst_row, mrow_self, mrow_mrow, mrow_neA (by omega), hq2]
        rfl
    have hlr : ∀ x, x < 5440 → x ≠ 3 → lawR ρ x = r x := fun x hx h3 => by
      unfold lawR
      rw [q_upd, if_neg h3, if_neg (by omega), hlow x (by omega)]
    have hl3 : lawR ρ 3 = nI 1 := by unfold lawR; rw [q_upd, if_pos rfl]
    have hlx : ∀ x, 5440 ≤ x → x < 6277 → lawR ρ x = ρ (x + 837) := fun x h0 h1 => by
      unfold lawR
      rw [q_upd, if_neg (by omega), if_pos ⟨h0, h1⟩]
    have hlg := hR.2.hlg
    have hW : WF V n N w0 (lawR ρ) := hR.2.chg (fun x _ h1 => hlr x (by omega) (by omega)) (hlr _ (by omega) (by omega)) (hlr _ (by omega) (by omega)) (hlr _ (by omega) (by omega)) ⟨lgd r, hlg.2, by rw [hlr _ (by omega) (by omega)]; exact hlg.1⟩ (Or.inr hl3) (by rw [hlr _ (by omega) (by omega)]; exact hR.2.2.2.2.2.2.2.2.2.1) (by rw [hlr _ (by omega) (by omega)]; exact hR.2.2.2.2.2.2.2.2.2.2)
    have hLW : LRw (lawR ρ) (some Λ) := by
      refine ⟨hl3, ?_, hΛt⟩
      rw [hΛ]
      have hρ2 : ∀ x, x ≠ 6277 → ρ x = aq (1, 0) x := fun x hx => by rw [hρ, q_upd, if_neg hx]
      refine ⟨by rw [hlx _ (by omega) (by omega), hρ, q_upd, if_pos rfl], fun k hk => ?_, fun x hx => ?_⟩
      · have hk' : k < m := hk
        rw [hlx _ (by omega) (by omega), hlx _ (by omega) (by omega), hlx _ (by omega) (by omega), hρ2 _ (by omega), hρ2 _ (by omega), hρ2 _ (by omega), show 5441 + 3 * k + 837 = 6278 + 3 * k by omega, show 5441 + 3 * k + 1 + 837 = 6278 + 3 * k + 1 by omega, show 5441 + 3 * k + 2 + 837 = 6278 + 3 * k + 2 by omega]
        exact R4 k hk'
      · have hx' : x < F m := hx
        rw [hlx _ (by omega) (by omega), hlx _ (by omega) (by omega), hρ2 _ (by omega), hρ2 _ (by omega), show 5477 + 2 * x + 837 = 6314 + 2 * x by omega, show 5477 + 2 * x + 1 + 837 = 6315 + 2 * x by omega]
        exact E4.2 x (by omega)
    obtain ⟨g1, g2, g3, g4, g5, g6, g7, g8⟩ := hS
    have e12 : ∀ c, b3 (12, c) = μk (12, c) := fun c => by rw [b3k _ (by simp) (by simp) (by simp) (by simp), fv.1 _ (by simp) (by simp), k3 _ (by simp) (by simp)]
    have S6 : STR sh' ln b3 j V n N w0 (lawR ρ) (some Λ) := by
      refine ⟨g1.to hW (fun x _ h1 => hlr x (by omega) (by omega)) (fun x hx => by rw [b313, if_neg (by omega)]) (fun x hx => e12 _), g2.kp ⟨by rw [b313, if_neg (by omega)], by rw [b313, if_neg (by omega)]⟩ (e12 _) (hlr _ (by omega) (by omega)) (fun x _ h1 => hlr x (by omega) (by omega)) hlg.2, ⟨i, B, by rw [b313, if_pos rfl], by omega, by omega, hLWk, hΛt⟩, hLW, ?_, ?_, ?_, ?_⟩
      · rw [b313, if_neg (by omega), hlr _ (by omega) (by omega)]; exact g5
      · rw [b313, if_neg (by omega), hlr _ (by omega) (by omega)]; exact g6
      · rw [b313, if_neg (by omega), hlr _ (by omega) (by omega)]; exact g7
      · rw [b313, if_neg (by omega), hlr _ (by omega) (by omega), hlr _ (by omega) (by omega)]; exact g8
    have q20 : ∀ x, q2 (0, 0) x = if x = 7 then nI 0 else if x = 17 then -nI 1 else aq (0, 0) x := fun x => by rw [hq2, mrow_self, q_upd, q1r, mrow_self, q_upd]
    refine ⟨m, q2, b3, sh', 2 + 0, B m + 2 + 0, Λ, lawR ρ, hq, hk3, by omega, by omega, ⟨B m, by omega, hsh'⟩, ⟨by rw [hq2, mrow_neA (by omega), mrow_self], hW⟩, hlr, S6, fun q g0 g1 => ?_, fun q g0 g2 g6 g13 g14 g15 => ?_, ⟨?_, ?_, ?_, ?_, fun x h0 h7 h12 h13 h14 h15 h16 h17 h21 => ?_⟩, by rw [b30]; rfl, by rw [b30]; rfl, fun x h8 h12 => by rw [b30, if_neg h8, if_neg h12], ?_⟩
    · rw [hq2, mrow_ne g0, mrow_ne g1, q1r, mrow_ne g0, qw.1 q g0 g1, o1 q g0]
    · rw [b3k q g0 g13 g14 g15, fv.1 q (fun y => by rw [y] at g6; simp at g6) (fun y => by rw [y] at g6; simp at g6), k3 q (by omega) g2]
    · rw [q20, if_neg (by omega), if_neg (by omega), qw.2.1 0 (by omega) (by omega) (by omega) (by omega)]; exact o2
    · rw [q20, if_pos rfl]
    · rw [q20, if_neg (by omega), if_neg (by omega), qw.2.1 12 (by omega) (by omega) (by omega) (by omega)]; exact o3
    · rw [q20, if_neg (by omega), if_pos rfl]
    · rw [q20, if_neg h7, if_neg h17, qw.2.1 x h13 h15 h16 h21, o4 x h0 h12 h13 h14 h15 h21]
    · rw [b3k _ (by simp) (by simp) (by simp) (by simp), fv.1 _ (by simp) (by simp)]
      exact k32
  · right
    have a0 : ak (0, 0) = μk (0, 0) := by rw [fw _ (by simp) (by simp), k3 _ (by simp) (by simp)]
    obtain ⟨b0, hb0⟩ : ∃ b0, b0 = mst ak (0, 0) 12 (nI x) := ⟨_, rfl⟩
    have b0r : b0 = mrow ak (0, 0) (upd (ak (0, 0)) 12 (nI x)) := by rw [hb0, mst_row]
    obtain ⟨q1, hq1⟩ : ∃ q1, q1 = mst aq (0, 0) 17 (nI x) := ⟨_, rfl⟩
    have q1r : q1 = mrow aq (0, 0) (upd (aq (0, 0)) 17 (nI x)) := by rw [hq1, mst_row]
    have hk3 : g_X10_law sh ln μk = some ((.inr 3, sh, b0), 0, 0) := by
      rw [hclass, f2', Option.bind_some]
      show ((f_X8_wrong_1 sh ln ak).bind fun x30 => _) = _
      rw [f_X8_wrong_1, Option.bind_some, f7]
      show (if -nI 1 = (-1 : Int32) then some (((Sum.inr 3 : Int32 ⊕ Nat), sh, mst ak (0, 0) 12 (nI x)), 0, 0) else _) = _
      rw [if_pos (show -nI 1 = (-1 : Int32) from rfl), ← hb0]
    have hq : f_X11_law μq = some (nI 0, mst q1 (0, 0) 0 (1 : Int32)) := by
      rw [f_X11_law, f1, Option.bind_some]
      show (if (0 : Int32) ≤ -nI 1 then _ else (if (0 : Int32) ≤ -nI 1 then _ else f_X11_law_J32 (mst aq (0, 0) 17 (aq (0, 0) 15)) (-nI 1) (1 : Int32))) = _
      rw [if_neg (by decide), if_neg (by decide), f15, ← hq1, f_X11_law_J32, show f_X11_throwsIf q1 (1 : Int32) (1 : Int32) = some (nI 1, mst q1 (0, 0) 0 1) from q_thr1, Option.bind_some, if_neg (show ¬ (nI 1, mst q1 (0, 0) 0 1).1 = 0 by show ¬ nI 1 = 0; decide)]
      rfl
    have q20 : ∀ y, mst q1 (0, 0) 0 (1 : Int32) (0, 0) y = if y = 0 then nI 1 else if y = 17 then nI x else aq (0, 0) y := fun y => by
      rw [mst_row, mrow_self, q_upd, q1r, mrow_self, q_upd]
      rfl
    have h1r : mst q1 (0, 0) 0 (1 : Int32) (1, 0) = aq (1, 0) := by rw [mst_row, mrow_neA (by omega), q1r, mrow_neA (by omega)]
    have hlow : ∀ x, x < 6277 → aq (1, 0) x = r x := fun x hx => by rw [qw.2.2 x hx, o1 _ (by simp), hR.1]
    refine ⟨nI x, mst q1 (0, 0) 0 (1 : Int32), b0, aq (1, 0), hq, hk3, ⟨h1r, hR.2.c6 hlow⟩, hlow, fun q g0 g1 => ?_, fun q g0 g2 g6 => ?_, ⟨by rw [q20]; rfl, ?_, ?_, by rw [q20]; rfl, fun y h0 h12 h13 h14 h15 h16 h17 h21 => ?_⟩, ?_, fun y hy => ?_, ?_⟩
    · rw [mst_row, mrow_ne g0, q1r, mrow_ne g0, qw.1 q g0 g1, o1 q g0]
    · rw [b0r, mrow_ne g0, fw q (fun y => by rw [y] at g6; simp at g6) (fun y => by rw [y] at g6; simp at g6), k3 q (by omega) g2]
    · rw [q20, if_neg (by omega), if_neg (by omega), qw.2.1 7 (by omega) (by omega) (by omega) (by omega), o4 7 (by omega) (by omega) (by omega) (by omega) (by omega) (by omega)]
    · rw [q20, if_neg (by omega), if_neg (by omega), qw.2.1 12 (by omega) (by omega) (by omega) (by omega)]; exact o3
    · rw [q20, if_neg h0, if_neg h17, qw.2.1 y h13 h15 h16 h21, o4 y h0 h12 h13 h14 h15 h21]
    · rw [b0r, mrow_self, q_upd, if_pos rfl]
    · rw [b0r, mrow_self, q_upd, if_neg hy, a0]
    · rw [b0r, mrow_neA (by omega), fw _ (by simp) (by simp)]; exact k32
end XLW
