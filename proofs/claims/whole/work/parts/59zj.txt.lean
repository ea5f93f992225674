-- village and law: one call of both
section TXTS
variable {sh : Sh} {ln : Nat → Nat} {μq μk : Mm} {V n N w0 : Nat} {r : Nat → Int32} {Λo : Option LW} {j d t c z : Nat} {T : Nat → Nat} {md : Nat → Nat}
theorem s_village (h : RLL sh ln μq μk V n N w0 r Λo j d t c T z) : STP (f_X11_village μq) (lfV sh (g_X10_village sh ln μk)) sh ln mdAU := by
  have nw := h.nw
  obtain ⟨⟨g1, g2, g3⟩, ⟨g4, g5, g6⟩, ⟨hL, hB, hU⟩, g7, ⟨r7, rt, r8, rc, rq⟩, g9, g10, g11, g12⟩ := h
  have hdj := g4.2.2.2.2.1
  have hsd := g4.2.2.2.2.2.2
  have hsj := nw.2.2
  obtain ⟨x2, hx2, e2⟩ := g3.2
  obtain ⟨t1, t2, t3, t4, t5, t6⟩ := g7
  rcases x_village g1 g2 g4 hL hB hU ⟨t1, t2, t3, t4, t5, t6⟩ ⟨g3.1, e2⟩ hx2 with ⟨aq, ak, ln', kc, ks, V', n', N', w', r', f1, f2, G, hx, A, S, E, Q, F, q0, q7, q12, q17, k8, k9, k10, k12, kO, kt⟩ | ⟨ce, x, aq, ak, ln', kc, ks, r', f1, f2, G, hc, q0, q7, A, er, Q, F, q12, q17, k12, kO, kt⟩
  · have keepS : ∀ i V n N w0 r Λ, i ≠ d → STR sh ln μk i V n N w0 r Λ → STR sh ln' ak i V n N w0 r Λ := fun i V n N w0 r Λ i2 hS => (hS.oT F i2).gr hB G
    have kx : ak (12, 0) = μk (12, 0) := F _ (by simp) (by simp) (by simp) (by simp) (by simp) (by simp) (by simp)
    refine Or.inl ⟨nI (x2 + 1), aq, sh, ln', ak, kc, ks, f1, by rw [f2]; rfl, q0, ⟨V', n', N', w', r', Λo, d, j, t, 0, T, 0, ⟨A, S, E.1, x2 + 1, by omega, E.2⟩, ⟨⟨k9, k10, g4.2.2.2.1, g4.2.2.1, fun e => hdj e.symm, hsd, hsj⟩, g6, g5⟩, ⟨hL.gr G, hB.gr G, hU.gr G⟩, ?_, ?_, ?_, ?_, ?_, g12.gr G hsd⟩, G.pay⟩
    · exact ⟨by omega, t2, by rw [kt, q_upd, if_pos rfl], q12, by rw [kx]; exact t5, by rw [Q.1 11 (by decide)]; exact t6⟩
    · exact ⟨by rw [kO 7 (by omega) (by omega) (by omega) (by omega)]; exact r7, rt, k8, by omega, q7⟩
    · intro i hi
      omega
    · unfold IMG
      rw [Q.2 6 (by omega) (by omega) (by omega) (by omega) (by omega) (by omega) (by omega) (by omega) (by omega) (by omega), Q.1 2 (by decide)]
      rcases g10 with k1 | ⟨k1, k2, V2, n2, N2, w2, Λ', k3, k4⟩
      · exact Or.inl k1
      · exact Or.inr ⟨k1, k2, V2, n2, N2, w2, Λ', keepS _ _ _ _ _ _ _ (by omega) k3, k4⟩
    · rw [k12, q17]
  · have keepS : ∀ i V n N w0 r Λ, i ≠ d → STR sh ln μk i V n N w0 r Λ → STR sh ln' ak i V n N w0 r Λ := fun i V n N w0 r Λ i2 hS => (hS.oT F i2).gr hB G
    have kx : ak (12, 0) = μk (12, 0) := F _ (by simp) (by simp) (by simp) (by simp) (by simp) (by simp) (by simp)
    have hmd : 1 ≤ mdAU ce ∧ mdAU ce < 4 := by
      rcases hc with e | e <;> rw [e] <;> decide
    refine Or.inr ⟨ce, nI 0, aq, sh, ln', ak, kc, ks, by rw [f2]; rfl, f1, q0, hmd.1, hmd.2, ⟨V, n, N, w0, r', Λo, j, d, t, c, T, 0, ⟨A, (keepS _ _ _ _ _ _ _ (by omega) g2).c6 er, g3.c6 er⟩, ⟨⟨by rw [kO 9 (by omega)]; exact g4.1, by rw [kO 10 (by omega)]; exact g4.2.1, g4.2.2⟩, g5, g6⟩, ⟨hL.gr G, hB.gr G, hU.gr G⟩, ?_, ?_, ?_, ?_, ?_, g12.gr G hsd⟩, G.pay⟩
    · exact ⟨by omega, t2, by rw [kt, q_upd, if_pos rfl], q12, by rw [kx]; exact t5, by rw [Q.1 11 (by decide)]; exact t6⟩
    · exact ⟨by rw [kO 7 (by omega)]; exact r7, rt, by rw [kO 8 (by omega)]; exact r8, rc, by rw [q7]; exact rq⟩
    · intro i hi
      obtain ⟨k1, V2, n2, N2, w2, k2, k3⟩ := g9 i hi
      have ep : ∀ k, k < 6277 → pasR aq r' i k = pasR μq r i k := fun k hk => by
        unfold pasR
        by_cases hk5 : k < 5440
        · rw [if_pos hk5, if_pos hk5, Q.1 5 (by decide)]
        · rw [if_neg hk5, if_neg hk5]; exact er k hk
      have sl := slot_lt t c i
      exact ⟨k1, V2, n2, N2, w2, (keepS _ _ _ _ _ _ _ (by omega) k2).c6 ep, k3.c6 ep⟩
    · unfold IMG
      rw [Q.2 6 (by omega) (by omega) (by omega) (by omega) (by omega) (by omega) (by omega) (by omega) (by omega) (by omega), Q.1 2 (by decide)]
      rcases g10 with k1 | ⟨k1, k2, V2, n2, N2, w2, Λ', k3, k4⟩
      · exact Or.inl k1
      · exact Or.inr ⟨k1, k2, V2, n2, N2, w2, Λ', keepS _ _ _ _ _ _ _ (by omega) k3, k4⟩
    · rw [k12, q17]
theorem s_law (h : RLL sh ln μq μk V n N w0 r Λo j d t c T z) (h4 : sh 4 2 + 2 < 2147483647) : STP (f_X11_law μq) (lfL ln (g_X10_law sh ln μk)) sh ln mdA := by
  have nw := h.nw
  obtain ⟨⟨g1, g2, g3⟩, ⟨g4, g5, g6⟩, ⟨hL, hB, hU⟩, g7, ⟨r7, rt, r8, rc, rq⟩, g9, g10, g11, g12⟩ := h
  have hsj := nw.2.2
  obtain ⟨t1, t2, t3, t4, t5, t6⟩ := g7
  rcases x_law g1 g2 nw hL ⟨t1, t2, t3, t4, t5, t6⟩ rfl h4 with ⟨m, aq, ak, sh', kc, ks, Λ, r', f1, f2, c1, c2, ⟨n', hn, hs⟩, A, er, S, Q, F, ⟨q0, q7, q12, q17, qO⟩, k8, k12, kO, kt⟩ | ⟨x, aq, ak, r', f1, f2, A, er, Q, F, ⟨q0, q7, q12, q17, qO⟩, k12, kO, kt⟩
  · have s2 : ∀ s, sh' 2 s = sh 2 s := fun s => by rw [hs]; unfold shs; rw [if_neg (by omega), if_neg (by omega)]
    have s42 : sh' 4 2 = sh 4 2 + 1 := by rw [hs]; unfold shs; rw [if_neg (by omega), if_pos ⟨rfl, rfl⟩]
    have s1 : ∀ x, x < sh 4 2 → sh' 1 x = sh 1 x := fun x hx => by rw [hs]; unfold shs; rw [if_neg (by omega), if_neg (by omega)]
    have kx : ak (12, 0) = μk (12, 0) := F _ (by simp) (by simp) (by simp) (by simp) (by simp) (by simp)
    have es2 : sh' 2 = sh 2 := funext s2
    refine Or.inl ⟨nI m, aq, sh', ln, ak, kc, ks, f1, by rw [f2]; rfl, q0, ⟨V, n, N, w0, r', some Λ, j, d, t, 0, T, 0, ⟨A, S, ?_, ?_⟩, ⟨?_, g5, g6⟩, ⟨hL, hB, hU⟩, ?_, ?_, ?_, ?_, ?_, ?_⟩, ?_⟩
    · intro e
      rw [er 7 (by omega) (by omega), er 8 (by omega) (by omega)] at e
      have := g3.1 e
      exact ⟨fun i h0 h1 => by rw [er _ (by omega) (by omega)]; exact this.1 i h0 h1, fun i h0 h1 => by rw [er _ (by omega) (by omega)]; exact this.2 i h0 h1⟩
    · rw [er 2 (by omega) (by omega)]; exact g3.2
    · unfold ND at *
      rw [kO 9 (by omega) (by omega), kO 10 (by omega) (by omega), s2, s2]
      exact g4
    · exact ⟨by omega, t2, by rw [kt, q_upd, if_pos rfl], q12, by rw [kx]; exact t5, by rw [Q (11, 0) (by simp) (by simp)]; exact t6⟩
    · exact ⟨by rw [kO 7 (by omega) (by omega)]; exact r7, rt, k8, by omega, q7⟩
    · intro i hi
      omega
    · unfold IMG
      rw [qO 6 (by omega) (by omega) (by omega) (by omega) (by omega) (by omega) (by omega) (by omega) (by omega), Q (2, 0) (by simp) (by simp), s2]
      rcases g10 with k1 | ⟨k1, k2, V2, n2, N2, w2, Λ', k3, k4⟩
      · exact Or.inl k1
      · exact Or.inr ⟨k1, k2, V2, n2, N2, w2, Λ', k3.oL F (by omega) rfl (by omega) s1, k4⟩
    · rw [k12, q17]
    · exact ⟨fun s => by rw [s2]; exact g12.1 s, fun s h2 h11 h0 => g12.2 s h2 h11 (by rw [← s2]; exact h0)⟩
    · unfold PAY POc POs
      rw [es2, s42]
      omega
  · have keepS : ∀ i V n N w0 r Λ, STR sh ln μk i V n N w0 r Λ → STR sh ln ak i V n N w0 r Λ := fun i V n N w0 r Λ hS => hS.al (F _ (by simp) (by simp) (fun y => by have := y.2; simp at this)) (fun k _ => F _ (by simp) (by simp) (fun y => by have := y.2; simp at this)) (fun q hq => F q (fun y => by rw [y] at hq; simp at hq) (fun y => by rw [y] at hq; simp at hq) (fun y => by omega))
    have kx : ak (12, 0) = μk (12, 0) := F _ (by simp) (by simp) (by simp)
    refine Or.inr ⟨3, nI 0, aq, sh, ln, ak, 0, 0, by rw [f2]; rfl, f1, q0, by decide, by decide, ⟨V, n, N, w0, r', Λo, j, d, t, c, T, 0, ⟨A, (keepS _ _ _ _ _ _ _ g2).c6 er, g3.c6 er⟩, ⟨⟨by rw [kO 9 (by omega)]; exact g4.1, by rw [kO 10 (by omega)]; exact g4.2.1, g4.2.2⟩, g5, g6⟩, ⟨hL, hB, hU⟩, ?_, ?_, ?_, ?_, ?_, g12⟩, PAY.rf⟩
    · exact ⟨by omega, t2, by rw [kt, q_upd, if_pos rfl], q12, by rw [kx]; exact t5, by rw [Q (11, 0) (by simp) (by simp)]; exact t6⟩
    · exact ⟨by rw [kO 7 (by omega)]; exact r7, rt, by rw [kO 8 (by omega)]; exact r8, rc, by rw [q7]; exact rq⟩
    · intro i hi
      obtain ⟨k1, V2, n2, N2, w2, k2, k3⟩ := g9 i hi
      have ep : ∀ k, k < 6277 → pasR aq r' i k = pasR μq r i k := fun k hk => by
        unfold pasR
        by_cases hk5 : k < 5440
        · rw [if_pos hk5, if_pos hk5, Q (5, 0) (by simp) (by simp)]
        · rw [if_neg hk5, if_neg hk5]; exact er k hk
      exact ⟨k1, V2, n2, N2, w2, (keepS _ _ _ _ _ _ _ k2).c6 ep, k3.c6 ep⟩
    · unfold IMG
      rw [qO 6 (by omega) (by omega) (by omega) (by omega) (by omega) (by omega) (by omega) (by omega), Q (2, 0) (by simp) (by simp)]
      rcases g10 with k1 | ⟨k1, k2, V2, n2, N2, w2, Λ', k3, k4⟩
      · exact Or.inl k1
      · exact Or.inr ⟨k1, k2, V2, n2, N2, w2, Λ', keepS _ _ _ _ _ _ _ k3, k4⟩
    · rw [k12, q17]
end TXTS
