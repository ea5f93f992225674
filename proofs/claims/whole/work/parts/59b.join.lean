-- one person more
def joR (n N V w0 v : Nat) (r : Nat → Int32) : Nat → Int32 := fun i => if i = 1 then nI (n + 1) else if i = 10 then nI (N * V) else if i = 6 then nI (w0 * V + v) else if 20 ≤ i ∧ i < 20 + N * V then nI 1 else r i
/-- nothing is told of anybody yet: who sees whom, and the labels -/
def EZ (r : Nat → Int32) : Prop := (∀ i, 11 ≤ i → i < 20 → r i = nI 0) ∧ ∀ i, 532 ≤ i → i < 5140 → r i = nI 0
theorem joR_ne {n N V w0 v i : Nat} {r : Nat → Int32} (h1 : i ≠ 1) (h2 : i ≠ 10) (h3 : i ≠ 6) (h4 : i < 20 ∨ 20 + N * V ≤ i) : joR n N V w0 v r i = r i := by
  unfold joR
  rw [if_neg h1, if_neg h2, if_neg h3, if_neg (by omega)]
theorem join_b {V n N w0 v : Nat} (hb : 2 ≤ V ∧ V ≤ 4 ∧ N = V ^ n ∧ N ≤ 512 ∧ n ≤ 9 ∧ w0 < N) (hv : v < V) (hN : N * V ≤ 512) : N * V = V ^ (n + 1) ∧ n + 1 ≤ 9 ∧ w0 * V + v < N * V := by
  have h1 : N * V = V ^ (n + 1) := by rw [hb.2.2.1, Nat.pow_succ]
  refine ⟨h1, ?_, ?_⟩
  · by_cases c : n + 1 ≤ 9
    · exact c
    · have h2 : 2 ^ 10 ≤ V ^ (n + 1) := Nat.le_trans (Nat.pow_le_pow_left hb.1 10) (Nat.pow_le_pow_right (by omega) (by omega))
      have h3 : (2 : Nat) ^ 10 = 1024 := by decide
      omega
  · have h4 : (w0 + 1) * V ≤ N * V := Nat.mul_le_mul_right V hb.2.2.2.2.2
    rw [Nat.succ_mul] at h4
    omega
theorem joR_WF {V n N w0 v : Nat} {r : Nat → Int32} (h : WF V n N w0 r) (hv : v < V) (hN : N * V ≤ 512) (hE : EZ r) : WF V (n + 1) (N * V) (w0 * V + v) (joR n N V w0 v r) := by
  have hb := h.b
  obtain ⟨j1, j2, j3⟩ := join_b hb hv hN
  have hNV : N ≤ N * V := Nat.le_mul_of_pos_right N (by omega)
  have hl : ∀ w, w < N * V → joR n N V w0 v r (20 + w) = nI 1 := fun w hw => by
    unfold joR
    rw [if_neg (by omega), if_neg (by omega), if_neg (by omega), if_pos (by omega)]
  have hlf : ∀ w, w < N * V → lf (joR n N V w0 v r) w = true := fun w hw => decide_eq_true (hl w hw)
  refine ⟨⟨hb.1, hb.2.1, j1, hN, j2, j3⟩, ⟨?_, ?_, ?_, ?_⟩, ?_, hlf _ j3, ?_, ?_, ?_, ?_, ?_, ?_⟩
  · rw [joR_ne (by omega) (by omega) (by omega) (by omega)]; exact h.v0
  · rfl
  · rfl
  · rfl
  · intro w hw
    rw [hl w hw, hlf w hw]; rfl
  · intro p w hp hw
    have e : joR n N V w0 v r (532 + 512 * p + w) = nI 0 := by rw [joR_ne (by omega) (by omega) (by omega) (by omega)]; exact hE.2 _ (by omega) (by omega)
    have el : lab (joR n N V w0 v r) p w = 0 := by unfold lab; rw [e]; rfl
    rw [el, e]
    exact ⟨rfl, by omega⟩
  · intro p hp
    have e : joR n N V w0 v r (11 + p) = nI 0 := by rw [joR_ne (by omega) (by omega) (by omega) (by omega)]; exact hE.1 _ (by omega) (by omega)
    have el : se (joR n N V w0 v r) p = 0 := by unfold se; rw [e]; rfl
    rw [el, e]
    exact ⟨rfl, Nat.two_pow_pos _⟩
  · rw [joR_ne (by omega) (by omega) (by omega) (by omega)]; exact h.hg
  · rw [joR_ne (by omega) (by omega) (by omega) (by omega)]; exact h.2.2.2.2.2.2.2.1
  · rw [joR_ne (by omega) (by omega) (by omega) (by omega)]; exact h.2.2.2.2.2.2.2.2.1
  · rw [joR_ne (by omega) (by omega) (by omega) (by omega)]; exact h.2.2.2.2.2.2.2.2.2
section JOIN
variable {sh : Sh} {ln : Nat → Nat} {μ : Mm} {j V n N w0 : Nat} {r : Nat → Int32} {Λo : Option LW}
theorem k_joinA (h : STR sh ln μ j V n N w0 r Λo) (hB : LB ln) (hU : UL ln) (hj : j < 11) {v : Nat} (hv : v < V) (hN : N * V ≤ 512) (hE : EZ r) :
    ACT (f_X6_joinA sh ln j μ (nI v)) sh ln μ j V (n + 1) (N * V) (w0 * V + v) (joR n N V w0 v r) Λo 0 := by
  obtain ⟨hC, hG, hK, hR, g4, g5, g6, g7⟩ := h
  have hb := hC.1.b
  obtain ⟨j1, j2, j3⟩ := join_b hb hv hN
  have hu := hU j hj
  have hl0 := hB.le (c := 15 + 5 * j + 0) (by omega)
  have hl1 := hB.le (c := 15 + 5 * j + 1) (by omega)
  have hNV : N ≤ N * V := Nat.le_mul_of_pos_right N (by omega)
  have hsz := sz_ok hb.1 (show V < 5 by omega) (show n + 1 < 10 by omega) (by rw [← j1]; exact hN)
  rw [← j1] at hsz
  have hnN := idx_le j2 hN
  have hw0 : w0 * V + v < 512 := by omega
  have hh : ∃ z kc ks, WhC (fun z : (Nat → Nat) × Mm × Int32 => f_X6_joinA_L2 sh z.1 j (nI v) z.2.1 z.2.2) (ln, μ, (0 : Int32)) = some (z, kc, ks) ∧
      ∃ ln' m, z = (0, ln', m) ∧ GR j ln ln' kc ks ∧ STR sh ln' m j V (n + 1) (N * V) (w0 * V + v) (joR n N V w0 v r) Λo ∧ FrS j μ m := by
    refine WhC_inv n (fun k s a b => ∃ U, s = (ln, mrow μ (12, 15 + 5 * j + 0) U, nI k) ∧ a = 0 ∧ b = 0 ∧ ∀ i, i < n → U i = nI (if i < k then V ^ (n - i) else V ^ (n - 1 - i))) _ ⟨μ (12, 15 + 5 * j + 0), by rw [mrow_id]; rfl, rfl, rfl, fun i hi => by rw [if_neg (by omega)]; exact (hC.2.2.2.1 i hi).1⟩ ?_ ?_
    · rintro k _ _ _ hk ⟨U, rfl, rfl, rfl, hUi⟩
      have ep : V ^ (n - 1 - k) * V = V ^ (n - k) := by rw [← Nat.pow_succ]; congr 1; omega
      have e1 : f_X1_at sh ln (15 + 5 * j + 0) (mrow μ (12, 15 + 5 * j + 0) U) (nI k) = some (nI (V ^ (n - 1 - k))) := by rw [k_at (by omega) (by omega), mrow_self, hUi k hk, if_neg (by omega)]
      have e2 : f_X1_put sh ln (15 + 5 * j + 0) (mrow μ (12, 15 + 5 * j + 0) U) (nI k) (nI (V ^ (n - k))) = some (mrow μ (12, 15 + 5 * j + 0) (upd U k (nI (V ^ (n - k))))) := by rw [k_put (by omega) (by omega), mrow_mrow, mrow_self]
      have c0 : mrow μ (12, 15 + 5 * j + 0) U (13, j) 0 = nI V := by rw [mrow_neA (by omega)]; exact hC.c0
      have c1 : mrow μ (12, 15 + 5 * j + 0) U (13, j) 1 = nI n := by rw [mrow_neA (by omega)]; exact hC.c1
      refine ⟨(ln, mrow μ (12, 15 + 5 * j + 0) (upd U k (nI (V ^ (n - k)))), nI (k + 1)), 0, 0, ?_, _, rfl, rfl, rfl, fun i hi => ?_⟩
      · show f_X6_joinA_L2 sh ln j (nI v) (mrow μ (12, 15 + 5 * j + 0) U) (nI k) = _
        rw [f_X6_joinA_L2, c1, if_neg (by rw [q_le (by omega) (by omega)]; omega), e1, Option.bind_some, c0, pk_mul, ep, e2, Option.bind_some, show (1 : Int32) = nI 1 from rfl, nI_add]
      · rw [q_upd]
        by_cases e : i = k
        · rw [if_pos e, if_pos (by omega), e]
        · rw [if_neg e, hUi i hi]
          by_cases c : i < k
          · rw [if_pos c, if_pos (by omega)]
          · rw [if_neg c, if_neg (by omega)]
    · rintro _ _ _ ⟨U, rfl, rfl, rfl, hUi⟩
      obtain ⟨M1, hM1⟩ : ∃ M1, M1 = mrow (mrow μ (12, 15 + 5 * j + 0) (upd U n (nI 1))) (12, 15 + 5 * j + 1) (upd (μ (12, 15 + 5 * j + 1)) n (nI 0)) := ⟨_, rfl⟩
      obtain ⟨G', hG'⟩ : ∃ G', G' = upd (upd (upd (μ (13, j)) 1 (nI (n + 1))) 2 (nI (N * V))) 3 (nI (w0 * V + v)) := ⟨_, rfl⟩
      obtain ⟨M3, hM3⟩ : ∃ M3, M3 = mrow M1 (13, j) G' := ⟨_, rfl⟩
      have c1 : mrow μ (12, 15 + 5 * j + 0) U (13, j) 1 = nI n := by rw [mrow_neA (by omega)]; exact hC.c1
      have p1 : f_X1_put sh ln (15 + 5 * j + 0) (mrow μ (12, 15 + 5 * j + 0) U) (nI n) (1 : Int32) = some (mrow μ (12, 15 + 5 * j + 0) (upd U n (nI 1))) := by rw [k_put (by omega) (by omega), mrow_mrow, mrow_self]; rfl
      have c1' : mrow μ (12, 15 + 5 * j + 0) (upd U n (nI 1)) (13, j) 1 = nI n := by rw [mrow_neA (by omega)]; exact hC.c1
      have p2 : f_X1_put sh ln (15 + 5 * j + 1) (mrow μ (12, 15 + 5 * j + 0) (upd U n (nI 1))) (nI n) (0 : Int32) = some M1 := by rw [k_put (by omega) (by omega), mrow_neB (by omega), hM1]; rfl
      have d13 : M1 (13, j) = μ (13, j) := by rw [hM1, mrow_neA (by omega), mrow_neA (by omega)]
      have m2 : mst (mst M1 (13, j) 1 (M1 (13, j) 1 + (1 : Int32))) (13, j) 2 (mst M1 (13, j) 1 (M1 (13, j) 1 + (1 : Int32)) (13, j) 2 * mst M1 (13, j) 1 (M1 (13, j) 1 + (1 : Int32)) (13, j) 0) = mrow M1 (13, j) (upd (upd (μ (13, j)) 1 (nI (n + 1))) 2 (nI (N * V))) := by
        have a1 : M1 (13, j) 1 + (1 : Int32) = nI (n + 1) := by rw [d13, hC.c1, show (1 : Int32) = nI 1 from rfl, nI_add]
        rw [a1, mst_row, mst_row, mrow_mrow, mrow_self, d13, q_upd, if_neg (by omega), q_upd, if_neg (by omega), hC.c2, hC.c0, pk_mul]
      have m3 : mst (mrow M1 (13, j) (upd (upd (μ (13, j)) 1 (nI (n + 1))) 2 (nI (N * V)))) (13, j) 3 ((mrow M1 (13, j) (upd (upd (μ (13, j)) 1 (nI (n + 1))) 2 (nI (N * V))) (13, j) 3) * (mrow M1 (13, j) (upd (upd (μ (13, j)) 1 (nI (n + 1))) 2 (nI (N * V))) (13, j) 0) + nI v) = M3 := by
        rw [mst_row, mrow_mrow, mrow_self, q_upd, if_neg (by omega), q_upd, if_neg (by omega), q_upd, if_neg (by omega), q_upd, if_neg (by omega), hC.c3, hC.c0, pk_mul, nI_add, hM3, hG']
      have x2 : M3 (13, j) 2 = nI (N * V) := by rw [hM3, mrow_self, hG']; rfl
      have x1 : M3 (13, j) 1 = nI (n + 1) := by rw [hM3, mrow_self, hG']; rfl
      obtain ⟨l1, a1, kc1, ks1, e1, G1, len1, F1, _⟩ := k_growA (sh := sh) (ln := ln) (c := 15 + 5 * j + 2) (m := N * V) (dd := j) (μ := M3) (by omega) (by omega) (hB.le (by omega)) (Or.inr hsz.1)
      have hB1 := hB.gr G1
      have hl2 := hB1.le (c := 15 + 5 * j + 2) (by omega)
      have f1 : f_X1_fill sh l1 (15 + 5 * j + 2) a1 (1 : Int32) (nI (N * V)) = some (mrow a1 (12, 15 + 5 * j + 2) (fun i => if i < N * V then nI 1 else a1 (12, 15 + 5 * j + 2) i)) := k_fill len1 (by omega)
      obtain ⟨A2, hA2⟩ : ∃ A2, A2 = mrow a1 (12, 15 + 5 * j + 2) (fun i => if i < N * V then nI 1 else a1 (12, 15 + 5 * j + 2) i) := ⟨_, rfl⟩
      rw [← hA2] at f1
      have a13 : a1 (13, j) = M3 (13, j) := F1.st (by omega)
      have b13 : A2 (13, j) = M3 (13, j) := by rw [hA2, mrow_neA (by omega)]; exact a13
      obtain ⟨l3, a3, kc3, ks3, e3, G3, len3, F3, _⟩ := k_growA (sh := sh) (ln := l1) (c := 15 + 5 * j + 3) (m := (n + 1) * (N * V)) (dd := j) (μ := A2) (by omega) (by omega) (hB1.le (by omega)) (by
        rcases hsz.2 with e | e
        · exact Or.inl (by omega)
        · exact Or.inr e)
      have hB3 := hB1.gr G3
      have hl3 := hB3.le (c := 15 + 5 * j + 3) (by omega)
      have c13 : a3 (13, j) = M3 (13, j) := by rw [F3.st (by omega)]; exact b13
      have f3 : f_X1_fill sh l3 (15 + 5 * j + 3) a3 (0 : Int32) (nI ((n + 1) * (N * V))) = some (mrow a3 (12, 15 + 5 * j + 3) (fun i => if i < (n + 1) * (N * V) then nI 0 else a3 (12, 15 + 5 * j + 3) i)) := k_fill len3 (by omega)
      obtain ⟨m, hm⟩ : ∃ m, m = mrow a3 (12, 15 + 5 * j + 3) (fun i => if i < (n + 1) * (N * V) then nI 0 else a3 (12, 15 + 5 * j + 3) i) := ⟨_, rfl⟩
      rw [← hm] at f3
      have key : f_X6_joinA_L2 sh ln j (nI v) (mrow μ (12, 15 + 5 * j + 0) U) (nI n) = some (.inr (0, l3, m), kc1 + (kc3 + 0), ks1 + (ks3 + 0)) := by
        rw [f_X6_joinA_L2, c1, if_pos (Int32.le_refl _), p1, Option.bind_some, c1', p2, Option.bind_some, m2, Option.bind_some, m3, x2, e1, Option.bind_some]
        have y2 : a1 (13, j) 2 = nI (N * V) := by rw [a13]; exact x2
        have z1 : A2 (13, j) 1 * A2 (13, j) 2 = nI ((n + 1) * (N * V)) := by rw [b13, x1, x2, pk_mul]
        have z3 : a3 (13, j) 1 * a3 (13, j) 2 = nI ((n + 1) * (N * V)) := by rw [c13, x1, x2, pk_mul]
        simp only [y2, f1, Option.bind_some, z1, e3, z3, f3]
        rfl
      -- what is there now
      have k13 : m (13, j) = G' := by rw [hm, mrow_neA (by omega), c13, hM3, mrow_self]
      have kG : ∀ i, i ≠ 1 → i ≠ 2 → i ≠ 3 → m (13, j) i = μ (13, j) i := fun i h1 h2 h3 => by rw [k13, hG', q_upd, if_neg h3, q_upd, if_neg h2, q_upd, if_neg h1]
      have kc : ∀ c, c ≠ 15 + 5 * j + 2 → c ≠ 15 + 5 * j + 3 → m (12, c) = M1 (12, c) := fun c h1 h2 => by
        rw [hm, mrow_neB (fun e => h2 e.symm), F3.ce h2, hA2, mrow_neB (fun e => h1 e.symm), F1.ce h1, hM3, mrow_neA (by omega)]
      have kU : m (12, 15 + 5 * j + 0) = upd U n (nI 1) := by rw [kc _ (by omega) (by omega), hM1, mrow_neB (by omega), mrow_self]
      have kS : m (12, 15 + 5 * j + 1) = upd (μ (12, 15 + 5 * j + 1)) n (nI 0) := by rw [kc _ (by omega) (by omega), hM1, mrow_self]
      have k4 : m (12, 15 + 5 * j + 4) = μ (12, 15 + 5 * j + 4) := by rw [kc _ (by omega) (by omega), hM1, mrow_neB (by omega), mrow_neB (by omega)]
      have k2 : ∀ i, i < N * V → m (12, 15 + 5 * j + 2) i = nI 1 := fun i hi => by rw [hm, mrow_neB (by omega), F3.ce (by omega), hA2, mrow_self, if_pos hi]
      have k3 : ∀ i, i < (n + 1) * (N * V) → m (12, 15 + 5 * j + 3) i = nI 0 := fun i hi => by rw [hm, mrow_self, if_pos hi]
      have kq : ∀ q : Ky, q ≠ (13, j) → ¬ (q.1 = 12 ∧ 15 + 5 * j ≤ q.2 ∧ q.2 < 20 + 5 * j) → m q = μ q := fun q h1 h2 => by
        have hne : ∀ i, i < 5 → q ≠ (12, 15 + 5 * j + i) := fun i hi e => h2 (by rw [e]; exact ⟨rfl, by show 15 + 5 * j ≤ 15 + 5 * j + i; omega, by show 15 + 5 * j + i < 20 + 5 * j; omega⟩)
        rw [hm, mrow_ne (hne 3 (by omega)), F3 q (fun y => hne 3 (by omega) (Prod.ext y.1 y.2)), hA2, mrow_ne (hne 2 (by omega)), F1 q (fun y => hne 2 (by omega) (Prod.ext y.1 y.2)), hM3, mrow_ne h1, hM1, mrow_ne (hne 1 (by omega)), mrow_ne (hne 0 (by omega))]
      have hW := joR_WF hC.1 hv hN hE
      have hGr := G1.tr G3
      have hGG : GR j ln l3 (kc1 + (kc3 + 0)) (ks1 + (ks3 + 0)) := hGr
      refine ⟨_, _, _, key, l3, m, rfl, by rw [Nat.zero_add, Nat.zero_add]; exact hGG, ⟨⟨hW, ⟨?_, ?_, ?_, ?_⟩, ⟨⟨?_, ?_, ?_, len3⟩, fun i _ => ?_⟩, ?_, ?_, ?_⟩, ?_, ?_, ?_, ?_, ?_, ?_, ?_⟩, fun q _ _ q2 q3 => kq q q3 q2⟩
      · rw [kG 0 (by omega) (by omega) (by omega)]; exact hC.c0
      · rw [k13, hG']; rfl
      · rw [k13, hG']; rfl
      · rw [k13, hG']; rfl
      · have := (hU.gr hGG j hj).1; omega
      · have := (hU.gr hGG j hj).2; omega
      · have := G3.2.1 (15 + 5 * j + 2); omega
      · have := hB3.le (c := 15 + 5 * j + i) (by omega); omega
      · intro p hp
        refine ⟨?_, ?_⟩
        · rw [kU, q_upd]
          by_cases e : p = n
          · rw [if_pos e, e, show n + 1 - 1 - n = 0 by omega, Nat.pow_zero]
          · rw [if_neg e, hUi p (by omega), if_pos (by omega), show n + 1 - 1 - p = n - p by omega]
        · rw [kS, q_upd, joR_ne (by omega) (by omega) (by omega) (by omega)]
          by_cases e : p = n
          · rw [if_pos e, e]; exact (hE.1 _ (by omega) (by omega)).symm
          · rw [if_neg e]; exact (hC.2.2.2.1 p (by omega)).2
      · intro w hw
        rw [k2 w hw]
        unfold joR
        rw [if_neg (by omega), if_neg (by omega), if_neg (by omega), if_pos (by omega)]
      · intro p w hp hw
        rw [k3 _ (idx_lt hp hw), joR_ne (by omega) (by omega) (by omega) (by omega)]; exact (hE.2 _ (by omega) (by omega)).symm
      · exact (hG.kp (a := m) (r' := joR n N V w0 v r) ⟨kG 14 (by omega) (by omega) (by omega), kG 15 (by omega) (by omega) (by omega)⟩ k4 (joR_ne (by omega) (by omega) (by omega) (by omega)) (fun i h0 h1 => joR_ne (by omega) (by omega) (by omega) (by omega)) hC.1.hlg.2).gr hGG
      · exact hK.to (kG 8 (by omega) (by omega) (by omega)) (fun q hq => kq q (fun y => by rw [y] at hq; rcases hq with hq | hq <;> injection hq <;> contradiction) (fun y => by have := y.1; omega))
      · exact hR.sl ⟨joR_ne (by omega) (by omega) (by omega) (by omega), joR_ne (by omega) (by omega) (by omega) (by omega), joR_ne (by omega) (by omega) (by omega) (by omega), joR_ne (by omega) (by omega) (by omega) (by omega), joR_ne (by omega) (by omega) (by omega) (by omega), fun i hi => joR_ne (by omega) (by omega) (by omega) (by omega)⟩
      · rw [kG 4 (by omega) (by omega) (by omega), joR_ne (by omega) (by omega) (by omega) (by omega)]; exact g4
      · rw [kG 5 (by omega) (by omega) (by omega), joR_ne (by omega) (by omega) (by omega) (by omega)]; exact g5
      · rw [kG 6 (by omega) (by omega) (by omega), joR_ne (by omega) (by omega) (by omega) (by omega)]; exact g6
      · rw [kG 7 (by omega) (by omega) (by omega), joR_ne (by omega) (by omega) (by omega) (by omega), joR_ne (by omega) (by omega) (by omega) (by omega)]; exact g7
  obtain ⟨_, kc, ks, e, ln', m, rfl, hGG, hS, hF⟩ := hh
  exact ⟨ln', m, kc, ks, e, hGG, hS, hF⟩
end JOIN
