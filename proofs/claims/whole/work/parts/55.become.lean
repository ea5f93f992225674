-- a State becomes another one: all of it
noncomputable def bec5 (sh : Sh) (lm : Nat → Nat) (j0 j1 : Nat) (M : Mm) : Option ((Int32 × (Nat → Nat) × Mm) × Nat × Nat) :=
  (f_X1_becomeA sh lm (15 + 5 * j0 + 0) (15 + 5 * j1 + 0) M (M (13, j0) 1)).bind fun x110 => addc x110.2.1 x110.2.2 ((f_X1_becomeA sh x110.1.2.1 (15 + 5 * j0 + 1) (15 + 5 * j1 + 1) x110.1.2.2 (x110.1.2.2 (13, j0) 1)).bind fun x125 => addc x125.2.1 x125.2.2 ((f_X1_becomeA sh x125.1.2.1 (15 + 5 * j0 + 2) (15 + 5 * j1 + 2) x125.1.2.2 (x125.1.2.2 (13, j0) 2)).bind fun x140 => addc x140.2.1 x140.2.2 ((f_X1_becomeA sh x140.1.2.1 (15 + 5 * j0 + 3) (15 + 5 * j1 + 3) x140.1.2.2 ((x140.1.2.2 (13, j0) 1) * (x140.1.2.2 (13, j0) 2))).bind fun x160 => addc x160.2.1 x160.2.2 ((f_X1_becomeA sh x160.1.2.1 (15 + 5 * j0 + 4) (15 + 5 * j1 + 4) x160.1.2.2 (300 : Int32)).bind fun x174 => addc x174.2.1 x174.2.2 (some ((0, x174.1.2.1, x174.1.2.2), 0, 0))))))
/-- units and sights are long from the first -/
def UL (ln : Nat → Nat) : Prop := ∀ j, j < 11 → 9 ≤ ln (15 + 5 * j + 0) ∧ 9 ≤ ln (15 + 5 * j + 1)
theorem UL.gr {dd : Nat} {ln ln' : Nat → Nat} {kc ks : Nat} (h : UL ln) (hG : GR dd ln ln' kc ks) : UL ln' := fun j hj => ⟨Nat.le_trans (h j hj).1 (hG.2.1 _), Nat.le_trans (h j hj).2 (hG.2.1 _)⟩
/-- another State keeps what it is -/
theorem STR.o {sh : Sh} {ln : Nat → Nat} {μ a : Mm} {j i V n N w0 : Nat} {r : Nat → Int32} {Λo : Option LW} (h : STR sh ln μ i V n N w0 r Λo) (hF : FrS j μ a) (hne : i ≠ j) : STR sh ln a i V n N w0 r Λo := by
  have e13 : a (13, i) = μ (13, i) := hF _ (fun y => by injection y; contradiction) (fun y => absurd y.1 (by simp)) (fun y => absurd y.1 (by simp)) (fun y => hne (congrArg Prod.snd y))
  have e12 : ∀ k, k < 5 → a (12, 15 + 5 * i + k) = μ (12, 15 + 5 * i + k) := fun k hk => hF _ (fun y => by injection y; contradiction) (fun y => by have h2 := y.2.2; have : 15 + 5 * i + k < 15 := h2; omega) (fun y => by
    have h1 : 15 + 5 * j ≤ 15 + 5 * i + k := y.2.1
    have h2 : 15 + 5 * i + k < 20 + 5 * j := y.2.2
    omega) (fun y => by injection y; contradiction)
  obtain ⟨g1, g2, g3, g4, g5, g6, g7, g8⟩ := h
  refine ⟨g1.to g1.1 Sam.rf (fun k _ => by rw [e13]) (fun k hk => e12 k (by omega)), g2.kp (by rw [e13]; exact ⟨rfl, rfl⟩) (e12 4 (by omega)) rfl (fun _ _ _ => rfl) g1.1.hlg.2, g3.to (by rw [e13]) (fun q hq => hF q (fun y => by rw [y] at hq; rcases hq with hq | hq <;> injection hq <;> contradiction) (fun y => by have := y.1; omega) (fun y => by have := y.1; omega) (fun y => by rw [y] at hq; rcases hq with hq | hq <;> injection hq <;> contradiction)), g4, ?_, ?_, ?_, ?_⟩
  · rw [e13]; exact g5
  · rw [e13]; exact g6
  · rw [e13]; exact g7
  · rw [e13]; exact g8
section BECOME
variable {sh : Sh} {ln : Nat → Nat} {μ : Mm} {j0 j1 V n N w0 : Nat} {r : Nat → Int32} {Λo : Option LW}
theorem k_bec5 (hb : 2 ≤ V ∧ V ≤ 4 ∧ N = V ^ n ∧ N ≤ 512 ∧ n ≤ 9 ∧ w0 < N) (hl : n ≤ ln (15 + 5 * j1 + 0) ∧ n ≤ ln (15 + 5 * j1 + 1) ∧ N ≤ ln (15 + 5 * j1 + 2) ∧ n * N ≤ ln (15 + 5 * j1 + 3)) (hB : LB ln) (hU : UL ln) (h0 : j0 < 11) (hne : j0 ≠ j1)
    (h1 : μ (13, j0) 1 = nI n) (h2 : μ (13, j0) 2 = nI N) :
    ∃ ln' m kc ks, bec5 sh ln j0 j1 μ = some ((0, ln', m), kc, ks) ∧ GR j0 ln ln' kc ks ∧ FrC (fun c => 15 + 5 * j0 ≤ c ∧ c < 20 + 5 * j0) μ m ∧
      (n ≤ ln' (15 + 5 * j0 + 0) ∧ n ≤ ln' (15 + 5 * j0 + 1) ∧ N ≤ ln' (15 + 5 * j0 + 2) ∧ n * N ≤ ln' (15 + 5 * j0 + 3)) ∧
      (∀ i, i < n → m (12, 15 + 5 * j0 + 0) i = μ (12, 15 + 5 * j1 + 0) i) ∧ (∀ i, i < n → m (12, 15 + 5 * j0 + 1) i = μ (12, 15 + 5 * j1 + 1) i) ∧ (∀ i, i < N → m (12, 15 + 5 * j0 + 2) i = μ (12, 15 + 5 * j1 + 2) i) ∧ (∀ i, i < n * N → m (12, 15 + 5 * j0 + 3) i = μ (12, 15 + 5 * j1 + 3) i) ∧
      (300 ≤ ln (15 + 5 * j1 + 4) → 300 ≤ ln' (15 + 5 * j0 + 4) ∧ ∀ i, i < 300 → m (12, 15 + 5 * j0 + 4) i = μ (12, 15 + 5 * j1 + 4) i) := by
  have hsz := sz_ok hb.1 (by omega) (show n < 10 by omega) (by rw [← hb.2.2.1]; exact hb.2.2.2.1)
  rw [← hb.2.2.1] at hsz
  have hnN := idx_le hb.2.2.2.2.1 hb.2.2.2.1
  have hu := hU j0 h0
  obtain ⟨l1, a1, c1, s1, e1, G1, o1, m1, F1, R1⟩ := k_becRow (sh := sh) (ln := ln) (μ := μ) (c0 := 15 + 5 * j0 + 0) (c1 := 15 + 5 * j1 + 0) (v := n) (m := n) (by rw [if_neg (by omega)]) (by omega) (dd := j0) (by omega) (by omega) (by omega) hB (by omega) (Or.inl (by omega))
  have hB1 := hB.gr G1
  obtain ⟨l2, a2, c2, s2, e2, G2, o2, m2, F2, R2⟩ := k_becRow (sh := sh) (ln := l1) (μ := a1) (c0 := 15 + 5 * j0 + 1) (c1 := 15 + 5 * j1 + 1) (v := n) (m := n) (by rw [o1 _ (by omega), if_neg (by omega)]) (by omega) (dd := j0) (by omega) (by omega) (by omega) hB1 (by omega) (Or.inl (by rw [o1 _ (by omega)]; omega))
  have hB2 := hB1.gr G2
  obtain ⟨l3, a3, c3, s3, e3, G3, o3, m3, F3, R3⟩ := k_becRow (sh := sh) (ln := l2) (μ := a2) (c0 := 15 + 5 * j0 + 2) (c1 := 15 + 5 * j1 + 2) (v := N) (m := N) (by rw [o2 _ (by omega), o1 _ (by omega), if_neg (by omega)]) (by omega) (dd := j0) (by omega) (by omega) (by omega) hB2 (by omega) (Or.inr hsz.1)
  have hB3 := hB2.gr G3
  obtain ⟨l4, a4, c4, s4, e4, G4, o4, m4, F4, R4⟩ := k_becRow (sh := sh) (ln := l3) (μ := a3) (c0 := 15 + 5 * j0 + 3) (c1 := 15 + 5 * j1 + 3) (v := n * N) (m := n * N) (by rw [o3 _ (by omega), o2 _ (by omega), o1 _ (by omega), if_neg (by omega)]) (by omega) (dd := j0) (by omega) (by omega) (by omega) hB3 hnN (by
    rcases hsz.2 with e | e
    · exact Or.inl (by omega)
    · exact Or.inr e)
  have hB4 := hB3.gr G4
  have hL5 : l4 (15 + 5 * j1 + 4) = ln (15 + 5 * j1 + 4) := by rw [o4 _ (by omega), o3 _ (by omega), o2 _ (by omega), o1 _ (by omega)]
  obtain ⟨M5, hM5⟩ : ∃ M5, M5 = if l4 (15 + 5 * j1 + 4) < 300 then l4 (15 + 5 * j1 + 4) else 300 := ⟨_, rfl⟩
  have hM5s : M5 ≤ l4 (15 + 5 * j0 + 4) ∨ M5 ∈ SZ := by
    rw [hM5]
    by_cases c : l4 (15 + 5 * j1 + 4) < 300
    · rw [if_pos c]
      rcases hB4 (15 + 5 * j1 + 4) (by omega) with e | e
      · exact Or.inl (by omega)
      · exact Or.inr e
    · rw [if_neg c]; exact Or.inr sz_300
  obtain ⟨l5, a5, c5, s5, e5, G5, o5, m5, F5, R5⟩ := k_becRow (sh := sh) (ln := l4) (μ := a4) (c0 := 15 + 5 * j0 + 4) (c1 := 15 + 5 * j1 + 4) (v := 300) (m := M5) hM5 (by omega) (dd := j0) (by omega) (by omega) (by omega) hB4 (by omega) hM5s
  have hG := G1.tr (G2.tr (G3.tr (G4.tr G5)))
  refine ⟨l5, a5, _, _, ?_, hG, ?_, ⟨?_, ?_, ?_, ?_⟩, ?_, ?_, ?_, ?_, ?_⟩
  · have q1 : a1 (13, j0) 1 = nI n := by rw [F1.st (by omega)]; exact h1
    have q2 : a2 (13, j0) 2 = nI N := by rw [F2.st (by omega), F1.st (by omega)]; exact h2
    have q3 : a3 (13, j0) 1 * a3 (13, j0) 2 = nI (n * N) := by rw [F3.st (by omega), F2.st (by omega), F1.st (by omega), h1, h2, pk_mul]
    unfold bec5
    rw [h1, e1, Option.bind_some]
    show addc c1 s1 ((f_X1_becomeA sh l1 (15 + 5 * j0 + 1) (15 + 5 * j1 + 1) a1 (a1 (13, j0) 1)).bind fun x125 => _) = _
    rw [q1, e2, Option.bind_some]
    show addc c1 s1 (addc c2 s2 ((f_X1_becomeA sh l2 (15 + 5 * j0 + 2) (15 + 5 * j1 + 2) a2 (a2 (13, j0) 2)).bind fun x140 => _)) = _
    rw [q2, e3, Option.bind_some]
    show addc c1 s1 (addc c2 s2 (addc c3 s3 ((f_X1_becomeA sh l3 (15 + 5 * j0 + 3) (15 + 5 * j1 + 3) a3 (a3 (13, j0) 1 * a3 (13, j0) 2)).bind fun x160 => _))) = _
    rw [q3, e4, Option.bind_some]
    show addc c1 s1 (addc c2 s2 (addc c3 s3 (addc c4 s4 ((f_X1_becomeA sh l4 (15 + 5 * j0 + 4) (15 + 5 * j1 + 4) a4 (nI 300)).bind fun x174 => _)))) = _
    rw [e5, Option.bind_some]
    rfl
  · exact (F1.mono (fun c hc => by omega)).tr ((F2.mono (fun c hc => by omega)).tr ((F3.mono (fun c hc => by omega)).tr ((F4.mono (fun c hc => by omega)).tr (F5.mono (fun c hc => by omega)))))
  · rw [o5 _ (by omega), o4 _ (by omega), o3 _ (by omega), o2 _ (by omega)]; exact m1
  · rw [o5 _ (by omega), o4 _ (by omega), o3 _ (by omega)]; exact m2
  · rw [o5 _ (by omega), o4 _ (by omega)]; exact m3
  · rw [o5 _ (by omega)]; exact m4
  · intro i hi
    rw [F5.ce (by omega), F4.ce (by omega), F3.ce (by omega), F2.ce (by omega)]; exact R1 i hi
  · intro i hi
    rw [F5.ce (by omega), F4.ce (by omega), F3.ce (by omega), R2 i hi, F1.ce (by omega)]
  · intro i hi
    rw [F5.ce (by omega), F4.ce (by omega), R3 i hi, F2.ce (by omega), F1.ce (by omega)]
  · intro i hi
    rw [F5.ce (by omega), R4 i hi, F3.ce (by omega), F2.ce (by omega), F1.ce (by omega)]
  · intro h3
    have hM3 : M5 = 300 := by rw [hM5, if_neg (by omega)]
    rw [hM3] at m5 R5
    exact ⟨m5, fun i hi => by rw [R5 i hi, F4.ce (by omega), F3.ce (by omega), F2.ce (by omega), F1.ce (by omega)]⟩
theorem k_becomeA (h : STR sh ln μ j1 V n N w0 r Λo) (hB : LB ln) (hU : UL ln) (h0 : j0 < 11) (hne : j0 ≠ j1) : ACT (f_X6_becomeA sh ln j0 j1 μ) sh ln μ j0 V n N w0 r Λo 0 := by
  have hC := h.1
  have hb := hC.1.b
  obtain ⟨-, hG, hK, hR, g4, g5, g6, g7⟩ := h
  have hx : ∀ f, mrow μ (13, j0) f (13, j1) = μ (13, j1) := fun f => mrow_neB hne
  obtain ⟨G, hGG⟩ : ∃ G, G = upd (upd (upd (upd (upd (upd (upd (upd (upd (upd (upd (μ (13, j0)) 0 (μ (13, j1) 0)) 1 (μ (13, j1) 1)) 2 (μ (13, j1) 2)) 3 (μ (13, j1) 3)) 4 (μ (13, j1) 4)) 5 (μ (13, j1) 5)) 6 (μ (13, j1) 6)) 7 (μ (13, j1) 7)) 8 (μ (13, j1) 8)) 14 (μ (13, j1) 14)) 15 (μ (13, j1) 15) := ⟨_, rfl⟩
  have hGi : ∀ i, i < 9 ∨ i = 14 ∨ i = 15 → G i = μ (13, j1) i := by
    intro i hi
    rw [hGG]
    rcases hi with hi | hi | hi
    · have : i = 0 ∨ i = 1 ∨ i = 2 ∨ i = 3 ∨ i = 4 ∨ i = 5 ∨ i = 6 ∨ i = 7 ∨ i = 8 := by omega
      rcases this with rfl | rfl | rfl | rfl | rfl | rfl | rfl | rfl | rfl <;> rfl
    · rw [hi]; rfl
    · rw [hi]; rfl
  have key : f_X6_becomeA sh ln j0 j1 μ = bec5 sh ln j0 j1 (mrow μ (13, j0) G) := by
    have hne' : ¬ j1 = j0 := fun e => hne e.symm
    have e7 : ∀ x : Option ((Int32 × (Nat → Nat) × Mm) × Nat × Nat), cb (μ (13, j1) 7) x = x := fun x => by rw [g7]; exact q_cbI
    unfold f_X6_becomeA
    rw [if_neg hne']
    simp only [Option.bind_some, mst_row, mrow_mrow, mrow_self, hx, e7]
    cases Λo with
    | none =>
      have h8 : μ (13, j1) 8 = nI 0 := hK
      rw [if_pos (show μ (13, j1) 8 = 0 from h8), hGG, h8]
      unfold bec5
      rw [mrow_self]
      rfl
    | some Λ =>
      obtain ⟨i, b, h8, hi, hi2, hW, hT⟩ := hK
      have h8n : ¬ μ (13, j1) 8 = 0 := by rw [h8, show (0 : Int32) = nI 0 from rfl, q_eq (by omega) (by omega)]; omega
      have h8i : (μ (13, j1) 8).toNatClampNeg - 1 = i := by rw [h8, q_cl (by omega)]; omega
      rw [if_neg h8n, h8i]
      unfold ce
      rw [if_pos hi, if_pos (by omega), ← h8, hGG]
      unfold bec5
      rw [mrow_self]
  obtain ⟨ln', m, kc, ks, e, hGr, hF, hlen, r0, r1, r2, r3, r4⟩ := k_bec5 (sh := sh) (ln := ln) (μ := mrow μ (13, j0) G) (j0 := j0) (j1 := j1) (V := V) (n := n) (N := N) (w0 := w0) hb hC.2.2.1.1 hB hU h0 hne (by rw [mrow_self, hGi _ (by omega)]; exact hC.c1) (by rw [mrow_self, hGi _ (by omega)]; exact hC.c2)
  have hB' := hB.gr hGr
  have e13 : ∀ i, i < 9 ∨ i = 14 ∨ i = 15 → m (13, j0) i = μ (13, j1) i := fun i hi => by rw [hF.st (by omega), mrow_self]; exact hGi i hi
  have e12 : ∀ c i, mrow μ (13, j0) G (12, c) i = μ (12, c) i := fun c i => by rw [mrow_neA (by omega)]
  refine ⟨ln', m, kc, ks, by rw [key]; exact e, hGr, ⟨⟨hC.1, ?_, ⟨hlen, fun i _ => ?_⟩, ?_, ?_, ?_⟩, ?_, ?_, hR, ?_, ?_, ?_, ?_⟩, ?_⟩
  · rw [e13 0 (by omega), e13 1 (by omega), e13 2 (by omega), e13 3 (by omega)]; exact hC.2.1
  · have := hB'.le (c := 15 + 5 * j0 + i) (by omega)
    omega
  · intro p hp
    rw [r0 p hp, r1 p hp, e12, e12]; exact hC.2.2.2.1 p hp
  · intro w hw
    rw [r2 w hw, e12]; exact hC.2.2.2.2.1 w hw
  · intro p w hp hw
    rw [r3 _ (idx_lt hp hw), e12]; exact hC.2.2.2.2.2 p w hp hw
  · obtain ⟨q14, t, ht, q15, glen, gv⟩ := hG
    have hl := hC.1.hlg
    refine ⟨by rw [e13 14 (by omega)]; exact q14, t, ht, by rw [e13 15 (by omega)]; exact q15, ?_, fun i c hi hc => ?_⟩
    · rcases glen with g | g
      · exact Or.inl g
      · exact Or.inr (r4 g).1
    · have h3 : 300 ≤ ln (15 + 5 * j1 + 4) := glen.resolve_left (by omega)
      have hm : (t + 59 - i) % 60 < 60 := Nat.mod_lt _ (by omega)
      rw [(r4 h3).2 _ (by omega), e12]; exact gv i c hi hc
  · have := hK
    unfold LRk at this ⊢
    cases Λo with
    | none => rw [e13 8 (by omega)]; exact this
    | some Λ =>
      obtain ⟨i, b, h8, hi, hi2, hW, hT⟩ := this
      refine ⟨i, b, by rw [e13 8 (by omega)]; exact h8, hi, hi2, ?_, hT⟩
      unfold LWk at hW ⊢
      rw [hF.st (by omega), hF.st (by omega), mrow_neA (by omega), mrow_neA (by omega)]
      exact hW
  · rw [e13 4 (by omega)]; exact g4
  · rw [e13 5 (by omega)]; exact g5
  · rw [e13 6 (by omega)]; exact g6
  · rw [e13 7 (by omega)]; exact g7
  · intro q _ _ q2 q3
    rw [hF q (fun y => q2 ⟨y.1, y.2⟩)]
    exact mrow_ne q3
end BECOME
