-- undo, image, back: one call of both
theorem EXX.c6 {r r' : Nat → Int32} (h : EXX r) (e : ∀ i, i < 6277 → r' i = r i) : EXX r' := by
  refine ⟨fun c => ?_, by rw [e _ (by omega)]; exact h.2⟩
  rw [e _ (by omega), e _ (by omega)] at c
  have := h.1 c
  exact ⟨fun i h0 h1 => by rw [e _ (by omega)]; exact this.1 i h0 h1, fun i h0 h1 => by rw [e _ (by omega)]; exact this.2 i h0 h1⟩
theorem slot_un {t c : Nat} (rt : t < 8) (rc : c < 8) : slot t (c + 1) c = 2 + (if t = 0 then 7 else t - 1) ∧ (if t = 0 then 7 else t - 1) < 8 ∧ ∀ i, i < c → slot (if t = 0 then 7 else t - 1) c i = slot t (c + 1) i := by
  unfold slot
  by_cases e : t = 0
  · simp only [if_pos e]
    exact ⟨by omega, by omega, fun i hi => by omega⟩
  · simp only [if_neg e]
    exact ⟨by omega, by omega, fun i hi => by omega⟩
section UNDS
variable {sh : Sh} {ln : Nat → Nat} {μq μk : Mm} {V n N w0 : Nat} {r : Nat → Int32} {Λo : Option LW} {j d t c z : Nat} {T : Nat → Nat} {md : Nat → Nat}
/-- nothing done, no throw -/
theorem nop_step (h : RLL sh ln μq μk V n N w0 r Λo j d t c T z) {fq : Option (Int32 × Mm)} {gk : Option (((Int32 ⊕ Nat) × Sh × (Nat → Nat) × Mm) × Nat × Nat)} {x : Int32} (h1 : gk = some ((.inl x, sh, ln, μk), 0, 0)) (h2 : fq = some (x, mst μq (0, 0) 0 (0 : Int32))) : STP fq gk sh ln md := by
  refine Or.inl ⟨x, _, sh, ln, μk, 0, 0, h2, h1, ?_, ⟨V, n, N, w0, r, Λo, j, d, t, c, T, z, h.q (h.1.1.z 0) (fun i hi => ?_) ?_ ?_ ?_ FrX.rf⟩, PAY.rf⟩
  · rw [mst_row, mrow_self, q_upd, if_pos rfl]; rfl
  · rw [mst_row, mrow_self, q_upd, if_neg hi]
  · rw [mst_row, mrow_neA (by omega)]
  · rw [mst_row, mrow_neA (by omega)]
  · rw [mst_row, mrow_neA (by omega)]
theorem s_undo (h : RLL sh ln μq μk V n N w0 r Λo j d t c T z) : STP (f_X11_undo μq) (lfA sh (f_X10_undoA sh ln μk)) sh ln md := by
  have h' := h
  have nw := h.nw
  obtain ⟨⟨g1, g2, g3⟩, ⟨g4, g5, g6⟩, ⟨hL, hB, hU⟩, g7, ⟨r7, rt, r8, rc, rq⟩, g9, g10, g11, g12⟩ := h
  cases c with
  | zero => exact nop_step h' (by rw [k_undo0 r8]; rfl) (by rw [q_undo0 rq, mst_row]; rfl)
  | succ c =>
    have hsj := nw.2.2
    obtain ⟨o1, o2, o3⟩ := slot_un (c := c) rt (by omega)
    obtain ⟨p1, V', n', N', w', p2, p3⟩ := g9 c (by omega)
    rw [o1] at p1 p2
    obtain ⟨t', ht'⟩ : ∃ t', t' = if t = 0 then 7 else t - 1 := ⟨_, rfl⟩
    rw [← ht'] at p1 p2 o2 o3
    obtain ⟨a, e1, A, FA, a0, a7, aO⟩ := q_undo (ρ := pasR μq r c) g1.1 p2.1.1 (by omega) rq (fun k hk => by unfold pasR; rw [if_pos hk])
    have eρ : undR (pasR μq r c) r = upd (pasR μq r c) 7 (nI 1) := by
      unfold undR
      refine congrArg (fun f => upd f 7 (nI 1)) (funext fun k => ?_)
      unfold pasR
      by_cases hk : k < 5440
      · rw [if_pos hk]
      · rw [if_neg hk]
        show r k = if k < 5440 then μq (5, 0) (5440 * c + k) else r k
        rw [if_neg hk]
    rw [eρ] at A
    obtain ⟨ln', m, kc, ks, e2, G, S, F⟩ := k_undoA (c := c) (t := t) (t' := t') (by omega) rt ht' r8 r7 nw p1 (by omega) p2 hB hU
    have keepS : ∀ i V n N w0 r Λ, i ≠ j → STR sh ln μk i V n N w0 r Λ → STR sh ln' m i V n N w0 r Λ := fun i V n N w0 r Λ i2 hS => ((hS.n0 rfl).o F i2).gr hB G
    have m0 : m (0, 0) = upd (upd (μk (0, 0)) 8 (nI c)) 7 (nI t') := by
      have : m (0, 0) = _ := F.n0 (by omega)
      rw [this, mrow_self]
    have m2 : m (2, 0) = μk (2, 0) := by
      have : m (2, 0) = _ := F.n0 (by omega)
      rw [this, mrow_neA (by omega)]
    have m12 : m (12, 0) = μk (12, 0) := by
      have : m (12, 0) = _ := F _ (by simp) (by simp) (by simp) (by simp)
      rw [this, mrow_neA (by omega)]
    refine Or.inl ⟨nI 1, a, sh, ln', m, kc, ks, e1, by rw [e2]; rfl, a0, ⟨V', n', N', w', _, Λo, j, d, t', c, T, z, ⟨A, S, ?_⟩, ⟨?_, g5, g6⟩, ⟨hL.gr G, hB.gr G, hU.gr G⟩, ?_, ?_, ?_, ?_, ?_, g12.gr G hsj⟩, G.pay⟩
    · refine ⟨fun e => ?_, by rw [q_upd, if_neg (by omega)]; exact p3.2⟩
      rw [q_upd, if_pos rfl] at e
      exact absurd e.1 (by decide)
    · unfold ND at *
      rw [m0, q_upd, if_neg (by omega), q_upd, if_neg (by omega), q_upd, if_neg (by omega), q_upd, if_neg (by omega)]
      exact g4
    · unfold TP at *
      rw [m2, m12, aO 12 (by omega) (by omega), FA 11 (by decide)]
      exact g7
    · unfold RNG
      rw [m0, q_upd, if_pos rfl, q_upd, if_neg (by omega), q_upd, if_pos rfl, a7]
      exact ⟨rfl, o2, rfl, by omega, rfl⟩
    · intro i hi
      rw [o3 i hi]
      obtain ⟨k1, V2, n2, N2, w2, k2, k3⟩ := g9 i (by omega)
      have ep : pasR a (upd (pasR μq r c) 7 (nI 1)) i = pasR μq r i := by
        funext k
        unfold pasR
        by_cases hk : k < 5440
        · rw [if_pos hk, if_pos hk, FA 5 (by decide)]
        · rw [if_neg hk, if_neg hk, q_upd, if_neg (by omega), if_neg hk]
      rw [ep]
      have sl := slot_lt t (c + 1) i
      exact ⟨k1, V2, n2, N2, w2, keepS _ _ _ _ _ _ _ (by omega) k2, k3⟩
    · unfold IMG
      rw [aO 6 (by omega) (by omega), FA 2 (by decide)]
      rcases g10 with k1 | ⟨k1, k2, V2, n2, N2, w2, Λ', k3, k4⟩
      · exact Or.inl k1
      · exact Or.inr ⟨k1, k2, V2, n2, N2, w2, Λ', keepS _ _ _ _ _ _ _ (by omega) k3, k4⟩
    · rw [m0, q_upd, if_neg (by omega), q_upd, if_neg (by omega), aO 17 (by omega) (by omega)]
      exact g11
theorem s_image (h : RLL sh ln μq μk V n N w0 r Λo j d t c T z) : STP ((f_X11_image μq).map (fun a => (0, a))) (g_X10_image sh ln μk) sh ln md := by
  have nw := h.nw
  obtain ⟨⟨g1, g2, g3⟩, ⟨g4, g5, g6⟩, ⟨hL, hB, hU⟩, g7, ⟨r7, rt, r8, rc, rq⟩, g9, g10, g11, g12⟩ := h
  have hsj := nw.2.2
  have hsd := g4.2.2.2.2.2.2
  obtain ⟨a, e1, A, FA, ak, a0, a6, aO⟩ := q_image g1
  obtain ⟨sh1, m1, kc1, ks1, ep, s1, s4, s11, hF1, hp⟩ : ∃ sh1 m1 kc1 ks1, keptO sh ln μk = some ((sh1, m1), kc1, ks1) ∧ (∀ s, sh1 2 s = if s = 10 then 1 else sh 2 s) ∧ sh1 4 2 = sh 4 2 ∧ sh1 1 = sh 1 ∧ FrS 10 μk m1 ∧ (kc1 + POc sh1 ln ≤ POc sh ln ∧ ks1 + POs sh1 ln ≤ POs sh ln) := by
    rcases g12.1 10 with h0 | h0
    · refine ⟨shs sh 2 10 1, fresh 10 μk, 11, 40, ?_, fun s => shs_2 s, by unfold shs; rw [if_neg (by omega)], by funext y; unfold shs; rw [if_neg (by omega)], fresh_S _ _, ?_⟩
      · have hf := g12.2 10 (by omega) (by omega) h0
        unfold keptO ce
        rw [if_pos h0, if_pos hf]
      · have e1 := smN_shs (v := 11) (show 10 < 11 by omega) h0
        have e2 := smN_shs (v := 40) (show 10 < 11 by omega) h0
        unfold POc POs
        omega
    · refine ⟨sh, μk, 0, 0, ?_, fun s => ?_, rfl, rfl, FrS.rf, by omega⟩
      · unfold keptO
        rw [if_neg (by omega)]
      · by_cases e : s = 10
        · rw [if_pos e, e]; exact h0
        · rw [if_neg e]
  have m10 : m1 (0, 0) = μk (0, 0) := hF1.n0 (by omega)
  have S1 : STR sh1 ln m1 j V n N w0 r Λo := (g2.o hF1 (by omega)).shx s4 s11
  have a9 : (m1 (0, 0) 9).toNatClampNeg = j := by rw [m10]; exact nw.c
  have sj1 : sh1 2 j = 1 := by rw [s1, if_neg (by omega)]; exact hsj
  obtain ⟨l2, m2, c2, k2, e2, G2, S2, F2⟩ := k_becomeA S1 hB hU (show 10 < 11 by omega) (show 10 ≠ j by omega)
  have F12 : FrS 10 μk m2 := hF1.tr F2
  have m20 : m2 (0, 0) = μk (0, 0) := F12.n0 (by omega)
  have m22 : m2 (2, 0) = μk (2, 0) := F12.n0 (by omega)
  have m212 : m2 (12, 0) = μk (12, 0) := F12 _ (by simp) (by simp) (by simp) (by simp)
  have keepS : ∀ i V n N w0 r Λ, i ≠ 10 → STR sh ln μk i V n N w0 r Λ → STR sh1 l2 m2 i V n N w0 r Λ := fun i V n N w0 r Λ i2 hS => (((hS.o hF1 i2).shx s4 s11).o F2 i2).gr hB G2
  have hgk : g_X10_image sh ln μk = some ((.inl 0, sh1, l2, m2), kc1 + (c2 + 0), ks1 + (k2 + 0)) := by
    unfold g_X10_image
    rw [ep, Option.bind_some]
    show addc kc1 ks1 (ce (sh1 2 ((m1 (0, 0) 9).toNatClampNeg) = 1) ((f_X6_becomeA sh1 ln 10 ((m1 (0, 0) 9).toNatClampNeg) m1).bind _)) = _
    rw [a9]
    unfold ce
    rw [if_pos sj1, e2]
    rfl
  have a5 := FA 5 (by decide)
  have hs1 : ∀ s, sh 2 s = 1 → sh1 2 s = 1 := fun s hs => by
    rw [s1]
    by_cases e : s = 10
    · rw [if_pos e]
    · rw [if_neg e]; exact hs
  refine Or.inl ⟨0, a, sh1, l2, m2, _, _, by rw [e1]; rfl, hgk, a0, ⟨V, n, N, w0, r, Λo, j, d, t, c, T, z, ⟨A, keepS _ _ _ _ _ _ _ (by omega) g2, g3⟩, ⟨?_, g5, g6⟩, ⟨hL.gr G2, hB.gr G2, hU.gr G2⟩, ?_, ?_, ?_, ?_, ?_, ?_⟩, ?_⟩
  · unfold ND at *
    rw [m20]
    exact ⟨g4.1, g4.2.1, g4.2.2.1, g4.2.2.2.1, g4.2.2.2.2.1, sj1, hs1 d hsd⟩
  · unfold TP at *
    rw [m22, m212, aO 12 (by omega) (by omega), FA 11 (by decide)]
    exact g7
  · unfold RNG
    rw [m20, aO 7 (by omega) (by omega)]
    exact ⟨r7, rt, r8, rc, rq⟩
  · intro i hi
    obtain ⟨k1, V2, n2, N2, w2, k2, k3⟩ := g9 i hi
    have ep : pasR a r i = pasR μq r i := by unfold pasR; rw [a5]
    rw [ep]
    have sl := slot_lt t c i
    exact ⟨hs1 _ k1, V2, n2, N2, w2, keepS _ _ _ _ _ _ _ (by omega) k2, k3⟩
  · exact Or.inr ⟨a6, by rw [s1, if_pos rfl], V, n, N, w0, Λo, S2.c6 ak, g3.c6 ak⟩
  · rw [m20, aO 17 (by omega) (by omega)]
    exact g11
  · refine ⟨fun s => ?_, fun s h2 h11 h0 => ?_⟩
    · rw [s1]
      by_cases e : s = 10
      · rw [if_pos e]; exact Or.inr rfl
      · rw [if_neg e]; exact g12.1 s
    · rw [s1] at h0
      by_cases e : s = 10
      · rw [if_pos e] at h0; cases h0
      · rw [if_neg e] at h0
        exact frl_gr G2 e (g12.2 s h2 h11 h0)
  · have p1 := G2.1.1
    have p2 := G2.1.2
    unfold PAY POc POs at *
    rw [s4]
    omega
theorem s_back (h : RLL sh ln μq μk V n N w0 r Λo j d t c T z) : STP (f_X11_back μq) (lfA sh (f_X10_backA sh ln μk)) sh ln md := by
  have h' := h
  have nw := h.nw
  obtain ⟨⟨g1, g2, g3⟩, ⟨g4, g5, g6⟩, ⟨hL, hB, hU⟩, g7, ⟨r7, rt, r8, rc, rq⟩, g9, g10, g11, g12⟩ := h
  rcases g10 with ⟨k1, k2⟩ | ⟨k1, k2, V', n', N', w', Λ', k3, k4⟩
  · exact nop_step h' (by rw [k_back0 k2]; rfl) (by rw [q_back0 k1, mst_row]; rfl)
  · have hsj := nw.2.2
    obtain ⟨a, e1, A, FA, a0, a7, aO⟩ := q_back (ρ := μq (2, 0)) g1.1 k3.1.1 k1 (fun _ _ => rfl)
    obtain ⟨ln', m, kc, ks, e2, G, S, b, F, hm⟩ := k_backA nw k2 (by omega) k3 hB hU
    have eb : ∀ i, i < 6277 → bacR (μq (2, 0)) r i = μq (2, 0) i := fun i hi => if_pos hi
    have keepS : ∀ i V n N w0 r Λ, i ≠ j → STR sh ln μk i V n N w0 r Λ → STR sh ln' m i V n N w0 r Λ := fun i V n N w0 r Λ i2 hS => ((hS.o F i2).gr hB G).n0 hm
    have b0 : b (0, 0) = μk (0, 0) := F.n0 (by omega)
    have m0 : m (0, 0) = upd (μk (0, 0)) 8 (nI 0) := by rw [hm, mrow_self, b0]
    have m2 : m (2, 0) = μk (2, 0) := by rw [hm, mrow_neA (by omega)]; exact F.n0 (by omega)
    have m12 : m (12, 0) = μk (12, 0) := by rw [hm, mrow_neA (by omega)]; exact F _ (by simp) (by simp) (by simp) (by simp)
    refine Or.inl ⟨nI 1, a, sh, ln', m, kc, ks, e1, by rw [e2]; rfl, a0, ⟨V', n', N', w', _, Λ', j, d, t, 0, T, z, ⟨A, S.c6 eb, k4.c6 eb⟩, ⟨?_, g5, g6⟩, ⟨hL.gr G, hB.gr G, hU.gr G⟩, ?_, ?_, ?_, ?_, ?_, g12.gr G hsj⟩, G.pay⟩
    · unfold ND at *
      rw [m0, q_upd, if_neg (by omega), q_upd, if_neg (by omega)]
      exact g4
    · unfold TP at *
      rw [m2, m12, aO 12 (by omega) (by omega), FA 11 (by decide)]
      exact g7
    · unfold RNG
      rw [m0, q_upd, if_neg (by omega), q_upd, if_pos rfl, a7]
      exact ⟨r7, rt, rfl, by omega, rfl⟩
    · intro i hi
      omega
    · unfold IMG
      rw [aO 6 (by omega) (by omega), FA 2 (by decide)]
      exact Or.inr ⟨k1, k2, V', n', N', w', Λ', keepS _ _ _ _ _ _ _ (by omega) k3, k4⟩
    · rw [m0, q_upd, if_neg (by omega), aO 17 (by omega) (by omega)]
      exact g11
end UNDS
