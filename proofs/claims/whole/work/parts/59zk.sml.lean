-- feed, end, fault, seed, trial, span: one call of both
section SMLS
variable {sh : Sh} {ln ln' : Nat → Nat} {μq μk a b : Mm} {V n N w0 : Nat} {r : Nat → Int32} {Λo : Option LW} {j d t c z : Nat} {T : Nat → Nat} {md : Nat → Nat}
/-- the draft is another -/
theorem RLL.dr (h : RLL sh ln μq μk V n N w0 r Λo j d t c T z) (hR : RS a V n N w0 r) (hq : ∀ i, i ≠ 0 → a (0, 0) i = μq (0, 0) i) (h2 : a (2, 0) = μq (2, 0)) (h5 : a (5, 0) = μq (5, 0)) (h11 : a (11, 0) = μq (11, 0)) {kc ks : Nat} (hk : FrS d μk b) (G : GR d ln ln' kc ks) : RLL sh ln' a b V n N w0 r Λo j d t c T z := by
  obtain ⟨⟨g1, g2, g3⟩, ⟨g4, g5, g6⟩, ⟨hL, hB, hU⟩, g7, g8, g9, g10, g11, g12⟩ := h
  have k0 : b (0, 0) = μk (0, 0) := hk.n0 (by omega)
  have k2 : b (2, 0) = μk (2, 0) := hk.n0 (by omega)
  have k12 : b (12, 0) = μk (12, 0) := hk _ (by simp) (by simp) (by simp) (by simp)
  have ep : ∀ i, pasR a r i = pasR μq r i := fun i => by unfold pasR; rw [h5]
  have hdj := g4.2.2.2.2.1
  have hsd := g4.2.2.2.2.2.2
  have keepS : ∀ i V n N w0 r Λ, i ≠ d → STR sh ln μk i V n N w0 r Λ → STR sh ln' b i V n N w0 r Λ := fun i V n N w0 r Λ i2 hS => (hS.o hk i2).gr hB G
  refine ⟨⟨hR, keepS _ _ _ _ _ _ _ (by omega) g2, g3⟩, ⟨by unfold ND at *; rw [k0]; exact g4, g5, g6⟩, ⟨hL.gr G, hB.gr G, hU.gr G⟩, ?_, ?_, fun i hi => ?_, ?_, by rw [k0, hq _ (by omega)]; exact g11, g12.gr G hsd⟩
  · unfold TP at *
    rw [k2, k12, hq _ (by omega), h11]
    exact g7
  · unfold RNG at *
    rw [k0, hq _ (by omega)]
    exact g8
  · obtain ⟨e1, V', n', N', w', e2, e3⟩ := g9 i hi
    rw [ep]
    have sl := slot_lt t c i
    exact ⟨e1, V', n', N', w', keepS _ _ _ _ _ _ _ (by omega) e2, e3⟩
  · rcases g10 with ⟨e1, e2⟩ | ⟨e1, e2, V', n', N', w', Λ', e3, e4⟩
    · exact Or.inl ⟨by rw [hq _ (by omega)]; exact e1, e2⟩
    · refine Or.inr ⟨by rw [hq _ (by omega)]; exact e1, e2, V', n', N', w', Λ', ?_, ?_⟩
      · rw [h2]; exact keepS _ _ _ _ _ _ _ (by omega) e3
      · rw [h2]; exact e4
/-- the tape is another -/
theorem RLL.tp {T' : Nat → Nat} {z' : Nat} (h : RLL sh ln μq μk V n N w0 r Λo j d t c T z) (hR : RS a V n N w0 r) (hq : ∀ i, i ≠ 0 → i ≠ 12 → a (0, 0) i = μq (0, 0) i) (h2 : a (2, 0) = μq (2, 0)) (h5 : a (5, 0) = μq (5, 0)) (hk : ∀ q : Ky, q ≠ (2, 0) → q ≠ (12, 0) → b q = μk q) (hT : TP a b T' z') : RLL sh ln a b V n N w0 r Λo j d t c T' z' := by
  obtain ⟨⟨g1, g2, g3⟩, ⟨g4, g5⟩, g6, g7, g8, g9, g10, g11, g12⟩ := h
  have k0 : b (0, 0) = μk (0, 0) := hk _ (by simp) (by simp)
  have ep : ∀ i, pasR a r i = pasR μq r i := fun i => by unfold pasR; rw [h5]
  have keepS : ∀ i V n N w0 r Λ, STR sh ln μk i V n N w0 r Λ → STR sh ln b i V n N w0 r Λ := fun i V n N w0 r Λ hS => hS.al (hk _ (by simp) (by simp)) (fun k _ => hk _ (by simp) (fun y => by have : 15 + 5 * i + k = 0 := congrArg Prod.snd y; omega)) (fun q hq => hk q (fun y => by rw [y] at hq; simp at hq) (fun y => by rw [y] at hq; simp at hq))
  refine ⟨⟨hR, keepS _ _ _ _ _ _ _ g2, g3⟩, ⟨by unfold ND at *; rw [k0]; exact g4, g5⟩, g6, hT, ?_, fun i hi => ?_, ?_, by rw [k0, hq _ (by omega) (by omega)]; exact g11, g12⟩
  · unfold RNG at *
    rw [k0, hq _ (by omega) (by omega)]
    exact g8
  · obtain ⟨e1, V', n', N', w', e2, e3⟩ := g9 i hi
    rw [ep]
    exact ⟨e1, V', n', N', w', keepS _ _ _ _ _ _ _ e2, e3⟩
  · rcases g10 with ⟨e1, e2⟩ | ⟨e1, e2, V', n', N', w', Λ', e3, e4⟩
    · exact Or.inl ⟨by rw [hq _ (by omega) (by omega)]; exact e1, e2⟩
    · refine Or.inr ⟨by rw [hq _ (by omega) (by omega)]; exact e1, e2, V', n', N', w', Λ', ?_, ?_⟩
      · rw [h2]; exact keepS _ _ _ _ _ _ _ e3
      · rw [h2]; exact e4
theorem RS.fr' (h : RS μq V n N w0 r) (e : a (1, 0) = μq (1, 0)) : RS a V n N w0 r := ⟨by rw [e]; exact h.1, h.2⟩
theorem s_feed (h : RLL sh ln μq μk V n N w0 r Λo j d t c T z) (v1 v2 v3 v4 v5 : Int32) : STP (f_X11_feed μq v1 v2 v3 v4 v5) (lfn sh ln (f_X10_feed sh ln μk v1 v2 v3 v4 v5)) sh ln md := by
  obtain ⟨t1, t2, t3, t4, t5, t6⟩ := h.2.2.2.1
  have hL := h.2.2.1.1
  by_cases c1 : 380 < z
  · exact nop_step (x := -nI 1) h (by rw [k_feed0 t3 t1 c1]; rfl) (by rw [q_feed0 t4 t1 c1, mst_row]; rfl)
  · obtain ⟨v, hv⟩ : ∃ v : Nat → Int32, v = fun i => if i = 0 then v1 else if i = 1 then v2 else if i = 2 then v3 else if i = 3 then v4 else v5 := ⟨_, rfl⟩
    have e0 : v1 = v 0 := by rw [hv]; rfl
    have e1 : v2 = v 1 := by rw [hv]; rfl
    have e2 : v3 = v 2 := by rw [hv]; rfl
    have e3 : v4 = v 3 := by rw [hv]; rfl
    have e4 : v5 = v 4 := by rw [hv]; rfl
    obtain ⟨aq, f1, q12, q0, qO, qF, q11⟩ := q_feed (v := v) t4 (by omega) t6
    obtain ⟨ak, f2, k2, k2O, kO, k12⟩ := k_feed (sh := sh) (v := v) hL t3 (by omega) t5
    rw [e0, e1, e2, e3, e4]
    refine Or.inl ⟨nI (z + 20), aq, sh, ln, ak, 0, 0, f1, by rw [f2]; rfl, q0, ⟨V, n, N, w0, r, Λo, j, d, t, c, fedT v z T, z + 20, h.tp (h.1.1.fr' (qF 1 (by decide))) qO (qF 2 (by decide)) (qF 5 (by decide)) kO ⟨by omega, fedT_lt t2, k2, q12, k12, q11⟩⟩, PAY.rf⟩
theorem s_end (h : RLL sh ln μq μk V n N w0 r Λo j d t c T z) (v : Int32) : STP (f_X11_end μq v) (lfn sh ln (f_X10_end sh ln μk v)) sh ln md := by
  obtain ⟨t1, t2, t3, t4, t5, t6⟩ := h.2.2.2.1
  have eq := q_end t4 v
  have ek := k_end (sh := sh) (ln := ln) t3 v
  by_cases c1 : cutB v z = true
  · rw [c1, if_pos rfl] at eq
    rw [c1, if_pos rfl] at ek
    have hc : ¬ v < 0 ∧ v ≤ nI z := of_decide_eq_true c1
    obtain ⟨k, hk, rfl⟩ := nI_of hc.1
    have hkz : k ≤ z := by
      have e : (nI k ≤ nI z) = (k ≤ z) := q_le hk (by omega)
      exact e.mp hc.2
    refine Or.inl ⟨bI true, _, sh, ln, _, 0, 0, eq, by rw [ek]; rfl, ?_, ⟨V, n, N, w0, r, Λo, j, d, t, c, T, k, h.tp (b := mrow μk (2, 0) (upd (μk (2, 0)) 1 (nI k))) (h.1.1.row _ (by omega)) (fun i i0 i12 => ?_) ?_ ?_ (fun q q2 _ => mrow_ne q2) ⟨by omega, t2, ?_, ?_, ?_, ?_⟩⟩, PAY.rf⟩
    · rw [mrow_self, q_upd, if_neg (by omega), q_upd, if_pos rfl]
    · rw [mrow_self, q_upd, if_neg i12, q_upd, if_neg i0]
    · rw [mrow_neA (by omega)]
    · rw [mrow_neA (by omega)]
    · rw [mrow_self, q_upd, if_pos rfl]
    · rw [mrow_self, q_upd, if_pos rfl]
    · rw [mrow_neA (by omega)]; exact t5
    · rw [mrow_neA (by omega)]; exact t6
  · have c2 : cutB v z = false := by cases hh : cutB v z; rfl; exact absurd hh c1
    rw [c2, if_neg (by decide)] at eq
    rw [c2, if_neg (by decide)] at ek
    exact nop_step (x := bI false) h (by rw [ek]; rfl) (by rw [eq, mst_row]; rfl)
theorem s_fault (h : RLL sh ln μq μk V n N w0 r Λo j d t c T z) : STP (f_X11_fault μq) (lf0 sh ln (ml0 μk (f_X10_fault sh ln μk))) sh ln md :=
  nop_step (x := μk (0, 0) 12) h (by rw [k_fault]; rfl) (by rw [q_fault, mst_row, h.2.2.2.2.2.2.2.1]; rfl)
theorem s_seed (h : RLL sh ln μq μk V n N w0 r Λo j d t c T z) (v : Int32) : STP (f_X11_seed μq v) (lfn sh ln (f_X10_seed sh ln μk v)) sh ln md := by
  have nw := h.nw
  obtain ⟨⟨g1, g2, g3⟩, ⟨g4, g5, g6⟩, ⟨hL, hB, hU⟩, g7, ⟨r7, rt, r8, rc, rq⟩, g9, g10, g11, g12⟩ := h
  have e5 : μk (13, j) 5 = r 5 := g2.2.2.2.2.2.1
  obtain ⟨a, ha⟩ : ∃ a, a = mrow (mrow μq (0, 0) (upd (μq (0, 0)) 0 (nI 0))) (1, 0) (upd r 5 v) := ⟨_, rfl⟩
  obtain ⟨b, hb⟩ : ∃ b, b = mrow μk (13, j) (upd (μk (13, j)) 5 v) := ⟨_, rfl⟩
  have fq : f_X11_seed μq v = some (r 5, a) := by
    rw [f_X11_seed, show ck 7114 (5 : Int32) = ck 7114 (nI 5) from rfl, ckL (by omega), ckL (by omega), mst_row, mst_row, mrow_neA (by omega), g1.1, ha]
    rfl
  have fk : f_X10_seed sh ln μk v = some (r 5, b) := by
    rw [f_X10_seed, nw.run, nw.run, nw.c, e5, mst_row, hb]
  have bk : ∀ q : Ky, q ≠ (13, j) → b q = μk q := fun q hq => by rw [hb]; exact mrow_ne hq
  have ak : ∀ q : Ky, q ≠ (0, 0) → q ≠ (1, 0) → a q = μq q := fun q q0 q1 => by rw [ha, mrow_ne q1, mrow_ne q0]
  have a0 : ∀ i, i ≠ 0 → a (0, 0) i = μq (0, 0) i := fun i hi => by rw [ha, mrow_neA (by omega), mrow_self, q_upd, if_neg hi]
  have hF : FrS j μk b := fun q _ _ _ e3 => bk q e3
  have b0 : b (0, 0) = μk (0, 0) := bk _ (by simp)
  have eu : ∀ i, i ≠ 5 → upd r 5 v i = r i := fun i hi => by rw [q_upd, if_neg hi]
  refine Or.inl ⟨r 5, a, sh, ln, b, 0, 0, fq, by rw [fk]; rfl, ?_, ⟨V, n, N, w0, upd r 5 v, Λo, j, d, t, c, T, z, ⟨⟨by rw [ha, mrow_self], sed_WF g1.2 v⟩, by rw [hb]; exact g2.sed v, ?_, ?_⟩, ⟨by unfold ND at *; rw [b0]; exact g4, g5, g6⟩, ⟨hL, hB, hU⟩, ?_, ?_, ?_, ?_, ?_, g12⟩, PAY.rf⟩
  · rw [ha, mrow_neA (by omega), mrow_self, q_upd, if_pos rfl]
  · intro e
    rw [eu _ (by omega), eu _ (by omega)] at e
    have := g3.1 e
    exact ⟨fun i h0 h1 => by rw [eu _ (by omega)]; exact this.1 i h0 h1, fun i h0 h1 => by rw [eu _ (by omega)]; exact this.2 i h0 h1⟩
  · rw [eu _ (by omega)]; exact g3.2
  · unfold TP at *
    rw [bk (2, 0) (by simp), bk (12, 0) (by simp), a0 _ (by omega), ak (11, 0) (by simp) (by simp)]
    exact g7
  · unfold RNG
    rw [b0, a0 _ (by omega)]
    exact ⟨r7, rt, r8, rc, rq⟩
  · intro i hi
    obtain ⟨k1, V2, n2, N2, w2, k2, k3⟩ := g9 i hi
    have ep : pasR a (upd r 5 v) i = pasR μq r i := by
      funext k
      unfold pasR
      by_cases hk : k < 5440
      · rw [if_pos hk, if_pos hk, ak (5, 0) (by simp) (by simp)]
      · rw [if_neg hk, if_neg hk, eu _ (by omega)]
    rw [ep]
    have sl := slot_lt t c i
    exact ⟨k1, V2, n2, N2, w2, k2.o hF (by omega), k3⟩
  · unfold IMG
    rw [a0 _ (by omega), ak (2, 0) (by simp) (by simp)]
    rcases g10 with k1 | ⟨k1, k2, V2, n2, N2, w2, Λ', k3, k4⟩
    · exact Or.inl k1
    · exact Or.inr ⟨k1, k2, V2, n2, N2, w2, Λ', k3.o hF (by omega), k4⟩
  · rw [b0, a0 _ (by omega)]
    exact g11
/-- the reference kept all and brought it back, the class used the draft -/
theorem dra_step (h : RLL sh ln μq μk V n N w0 r Λo j d t c T z) {fq : Option (Int32 × Mm)} {gk : Option (((Int32 ⊕ Nat) × Sh × (Nat → Nat) × Mm) × Nat × Nat)} {x : Int32} {kc ks : Nat} (h1 : gk = some ((.inl x, sh, ln', b), kc, ks)) (h2 : fq = some (x, a)) (G : GR d ln ln' kc ks) (hF : FrS d μk b) (hR : RS a V n N w0 r) (hA : Fr AT (mst μq (0, 0) 0 (0 : Int32)) a) : STP fq gk sh ln md := by
  refine Or.inl ⟨x, a, sh, ln', b, kc, ks, h2, h1, ?_, ⟨V, n, N, w0, r, Λo, j, d, t, c, T, z, h.dr hR (fun i hi => ?_) ?_ ?_ ?_ hF G⟩, G.pay⟩
  · rw [hA 0 (by decide), mst_row, mrow_self, q_upd, if_pos rfl]; rfl
  · rw [hA 0 (by decide), mst_row, mrow_self, q_upd, if_neg hi]
  · rw [hA 2 (by decide), mst_row, mrow_neA (by omega)]
  · rw [hA 5 (by decide), mst_row, mrow_neA (by omega)]
  · rw [hA 11 (by decide), mst_row, mrow_neA (by omega)]
theorem s_trial (h : RLL sh ln μq μk V n N w0 r Λo j d t c T z) (v : Int32) : STP (f_X11_trial μq v) (g_X10_trial sh ln μk v) sh ln mdA := by
  have hz := h.1.1.z 0
  have nw := h.nw
  have hS := h.1.2.1
  obtain ⟨hL, hB, hU⟩ := h.2.2.1
  rw [f_X11_trial, g_X10_trial]
  rcases need_num v 0 30 with ⟨e1, e2, e3, e4⟩ | ⟨e1, e2⟩
  · obtain ⟨m, hm, rfl⟩ := nI_of e3
    have hm2 : m < 31 := by
      have e : (nI m ≤ nI 30) = (m ≤ 30) := q_le hm (by omega)
      have := e.mp e4
      omega
    obtain ⟨a, f1, A, FA⟩ := q_trialB hz hS.2.2.2.1 hm2
    obtain ⟨ln', b, kc, ks, f2, G, F⟩ := k_trialD hS hL hB hU h.2.1.1 hm2 (r 5)
    have eu : upd r 5 (r 5) = r := by
      funext i
      rw [q_upd]
      by_cases e : i = 5
      · rw [if_pos e, e]
      · rw [if_neg e]
    rw [eu] at f2
    rw [xbO_l e2, nw.run, nw.c, show μk (13, j) 5 = r 5 from hS.2.2.2.2.2.1, f2]
    refine dra_step h rfl ?_ G F A FA
    refine (q_b1 e1 (fun z => rfl)).trans ?_
    rw [f_X11_trial_J21]
    exact q_t0.trans f1
  · refine thr_step (x := 0) h (xbO_r e2) ?_ (by decide) (by decide)
    refine (q_b0 e1 (fun z => rfl)).trans ?_
    rw [f_X11_trial_J21]
    exact q_t1
theorem s_span (h : RLL sh ln μq μk V n N w0 r Λo j d t c T z) (v : Int32) (most : Bool) : STP (f_X11_span μq v (bI most)) (g_X10_span sh ln μk v (bI most)) sh ln mdA := by
  have hz := h.1.1.z 0
  have nw := h.nw
  have hS := h.1.2.1
  obtain ⟨hL, hB, hU⟩ := h.2.2.1
  rw [f_X11_span, g_X10_span]
  rcases need_num v 0 30 with ⟨e1, e2, e3, e4⟩ | ⟨e1, e2⟩
  · obtain ⟨m, hm, rfl⟩ := nI_of e3
    have hm2 : m < 31 := by
      have e : (nI m ≤ nI 30) = (m ≤ 30) := q_le hm (by omega)
      have := e.mp e4
      omega
    obtain ⟨a, f1, A, FA⟩ := q_spanB hz hS.2.2.2.1 hm2 most
    obtain ⟨ln', b, kc, ks, f2, G, F⟩ := k_spanL hS hL hB hU h.2.1.1 hm2 most
    rw [xbO_l e2, f2]
    refine dra_step h rfl ?_ G F A FA
    refine (q_b1 e1 (fun z => rfl)).trans ?_
    rw [f_X11_span_J21]
    exact q_t0.trans f1
  · refine thr_step (x := 0) h (xbO_r e2) ?_ (by decide) (by decide)
    refine (q_b0 e1 (fun z => rfl)).trans ?_
    rw [f_X11_span_J21]
    exact q_t1
end SMLS
