-- trials: the class
/-- now is the State j, the draft the State d -/
def ND (sh : Sh) (μ : Mm) (j d : Nat) : Prop := μ (0, 0) 9 = nI j ∧ μ (0, 0) 10 = nI d ∧ j < 11 ∧ d < 11 ∧ d ≠ j ∧ sh 2 j = 1 ∧ sh 2 d = 1
theorem FrS.n0 {j : Nat} {μ a : Mm} (h : FrS j μ a) {k i : Nat} (hk : k ≠ 5 ∧ k ≠ 12 ∧ k ≠ 13) : a (k, i) = μ (k, i) := h _ (fun y => hk.1 (congrArg Prod.fst y)) (fun y => hk.2.1 y.1) (fun y => hk.2.1 y.1) (fun y => hk.2.2 (congrArg Prod.fst y))
theorem ND.S {sh : Sh} {μ a : Mm} {j d i : Nat} (h : ND sh μ j d) (hF : FrS i μ a) : ND sh a j d := by
  unfold ND at *
  rw [hF.n0 (by omega)]
  exact h
section TRIALK
variable {sh : Sh} {ln : Nat → Nat} {μ : Mm} {j d V n N w0 : Nat} {r : Nat → Int32} {Λo : Option LW}
theorem ND.c9 (h : ND sh μ j d) : (μ (0, 0) 9).toNatClampNeg = j := by rw [h.1, q_cl (by have := h.2.2.1; omega)]
theorem ND.c10 (h : ND sh μ j d) : (μ (0, 0) 10).toNatClampNeg = d := by rw [h.2.1, q_cl (by have := h.2.2.2.1; omega)]
theorem k_trialD (h : STR sh ln μ j V n N w0 r Λo) (hL : LN ln) (hB : LB ln) (hU : UL ln) (hD : ND sh μ j d) {m : Nat} (hm : m < 31) (s : Int32) :
    ∃ ln' a kc ks, f_X10_sureBehindStrollA sh ln μ (nI m) s = some ((nI (sbs V n N w0 Λo (upd r 5 s) m), ln', a), kc, ks) ∧ GR d ln ln' kc ks ∧ FrS d μ a := by
  obtain ⟨l1, a1, c1, s1, e1, G1, h1, F1⟩ := k_becomeA h hB hU hD.2.2.2.1 hD.2.2.2.2.1
  have D1 := hD.S F1
  have h2 := h1.sed s
  have F2 : FrS d a1 (mrow a1 (13, d) (upd (a1 (13, d)) 5 s)) := fun q _ _ _ e3 => mrow_ne e3
  have D2 := D1.S F2
  have hd11 := hD.2.2.2.1
  obtain ⟨l3, a3, c3, s3, e3, G3, h3, F3⟩ := k_strollBy h2 (hL.gr G1) (hB.gr G1) hd11 hm
  have D3 := D2.S F3
  have em : mst a1 (13, d) 5 s = mrow a1 (13, d) (upd (a1 (13, d)) 5 s) := mst_row _ _ _ _
  have e4 := k_sureOnes (sh := sh) h3.1
  have x9 := hD.c9
  have x10 := hD.c10
  have y10 := D1.c10
  have z10 := D2.c10
  have w10 := D3.c10
  have hsd : sh 2 d = 1 := hD.2.2.2.2.2.2
  have hsj : sh 2 j = 1 := hD.2.2.2.2.2.1
  have ece : ∀ {X : Type} (x : Option X), ce (sh 2 d = 1) x = x := fun x => by unfold ce; rw [if_pos hsd]
  have ecj : ∀ {X : Type} (x : Option X), ce (sh 2 j = 1) x = x := fun x => by unfold ce; rw [if_pos hsj]
  refine ⟨l3, a3, c1 + (c3 + 0), s1 + (s3 + 0), ?_, G1.tr G3, F1.tr (F2.tr F3)⟩
  rw [f_X10_sureBehindStrollA, x10, ece, x9, ecj, e1, Option.bind_some]
  simp only [y10, em, z10, ece, e3, Option.bind_some, w10, e4]
  rfl
theorem k_spanL (h : STR sh ln μ j V n N w0 r Λo) (hL : LN ln) (hB : LB ln) (hU : UL ln) (hD : ND sh μ j d) {m : Nat} (hm : m < 31) (most : Bool) :
    ∃ ln' a kc ks, ((f_X10_sureBehindStrollA sh ln μ (nI m) (1 : Int32)).bind fun x11 => addc x11.2.1 x11.2.2 ((f_J6_bitCount_0f7a4 x11.1.1).bind fun x14 => WhC (fun z : (Nat → Nat) × Mm × Int32 × Int32 => f_X10_spanA_L21 sh z.1 (nI m) (bI most) z.2.1 z.2.2.1 z.2.2.2) (x11.1.2.1, x11.1.2.2, x14, (2 : Int32)))) = some ((nI (spn most (spf V n N w0 Λo r m) 5), ln', a), kc, ks) ∧ GR d ln ln' kc ks ∧ FrS d μ a := by
  have hb := h.1.1.b
  have hbc : ∀ s : Nat, f_J6_bitCount_0f7a4 (nI (sbs V n N w0 Λo (upd r 5 (nI s)) m)) = some (nI (spf V n N w0 Λo r m s)) := fun s => k_bc (sbs_512 hb.2.2.2.2.1)
  obtain ⟨l1, a1, c1, s1, e1, G1, F1⟩ := k_trialD h hL hB hU hD hm (nI 1)
  have hh : ∃ z kc ks, WhC (fun z : (Nat → Nat) × Mm × Int32 × Int32 => f_X10_spanA_L21 sh z.1 (nI m) (bI most) z.2.1 z.2.2.1 z.2.2.2) (l1, a1, nI (spf V n N w0 Λo r m 1), (2 : Int32)) = some (z, kc, ks) ∧
      ∃ ln' a, z = (nI (spn most (spf V n N w0 Λo r m) 5), ln', a) ∧ GR d l1 ln' kc ks ∧ FrS d a1 a := by
    refine WhC_inv 5 (fun k z kc ks => ∃ l a, z = (l, a, nI (spn most (spf V n N w0 Λo r m) k), nI (k + 2)) ∧ GR d l1 l kc ks ∧ FrS d a1 a) _ ⟨l1, a1, rfl, GR.rf, FrS.rf⟩ ?_ ?_
    · rintro k _ kc ks hk ⟨l, a, rfl, hG, hF⟩
      have hF' := F1.tr hF
      have hG' := G1.tr hG
      have hj := (h.o hF' (fun e => hD.2.2.2.2.1 e.symm)).gr hB hG'
      obtain ⟨l2, a2, c2, s2, e2, G2, F2⟩ := k_trialD hj (hL.gr hG') (hB.gr hG') (hU.gr hG') (hD.S hF') hm (nI (k + 2))
      refine ⟨(l2, a2, nI (spn most (spf V n N w0 Λo r m) (k + 1)), nI (k + 1 + 2)), c2 + 0, s2 + 0, ?_, l2, a2, rfl, hG.tr G2, hF.tr F2⟩
      show f_X10_spanA_L21 sh l (nI m) (bI most) a (nI (spn most (spf V n N w0 Λo r m) k)) (nI (k + 2)) = _
      have hl1 : spf V n N w0 Λo r m (k + 2) ≤ 9 := bc_le _
      have hl2 := spn_le (most := most) (f := spf V n N w0 Λo r m) (fun s => bc_le _) k
      rw [f_X10_spanA_L21, if_neg (by rw [show (6 : Int32) = nI 6 from rfl, q_lt (by omega) (by omega)]; omega), e2, Option.bind_some]
      show addc c2 s2 ((f_J6_bitCount_0f7a4 (nI (sbs V n N w0 Λo (upd r 5 (nI (k + 2))) m))).bind fun x35 => if bI most = 0 then some ((Sum.inl (l2, a2, (if x35 < nI (spn most (spf V n N w0 Λo r m) k) then x35 else nI (spn most (spf V n N w0 Λo r m) k)), nI (k + 2) + (1 : Int32)) : ((Nat → Nat) × Mm × Int32 × Int32) ⊕ (Int32 × (Nat → Nat) × Mm)), 0, 0) else (some (Sum.inl (l2, a2, (if nI (spn most (spf V n N w0 Λo r m) k) < x35 then x35 else nI (spn most (spf V n N w0 Λo r m) k)), nI (k + 2) + (1 : Int32)), 0, 0))) = _
      rw [hbc, Option.bind_some]
      obtain ⟨A, hA⟩ : ∃ A, A = spn most (spf V n N w0 Λo r m) k := ⟨_, rfl⟩
      obtain ⟨B, hBB⟩ : ∃ B, B = spf V n N w0 Λo r m (k + 2) := ⟨_, rfl⟩
      have hsp : spn most (spf V n N w0 Λo r m) (k + 1) = if most = true then (if A < B then B else A) else (if B < A then B else A) := by rw [hA, hBB]; rfl
      rw [hsp, ← hA, ← hBB]
      rw [← hA] at hl2
      rw [← hBB] at hl1
      have q1 : (nI B < nI A) = (B < A) := q_lt (by omega) (by omega)
      have q2 : (nI A < nI B) = (A < B) := q_lt (by omega) (by omega)
      have q3 : nI (k + 2) + (1 : Int32) = nI (k + 1 + 2) := by rw [show (1 : Int32) = nI 1 from rfl, nI_add, show k + 2 + 1 = k + 1 + 2 by omega]
      rw [q3]
      cases most
      · rw [if_pos (show bI false = 0 from rfl), if_neg (show ¬ false = true by decide)]
        by_cases c : B < A
        · rw [if_pos (q1.mpr c), if_pos c]; rfl
        · rw [if_neg (fun x => c (q1.mp x)), if_neg c]; rfl
      · rw [if_neg (show ¬ bI true = 0 by decide), if_pos (show true = true from rfl)]
        by_cases c : A < B
        · rw [if_pos (q2.mpr c), if_pos c]; rfl
        · rw [if_neg (fun x => c (q2.mp x)), if_neg c]; rfl
    · rintro _ kc ks ⟨l, a, rfl, hG, hF⟩
      refine ⟨_, 0, 0, ?_, l, a, rfl, hG, hF⟩
      show f_X10_spanA_L21 sh l (nI m) (bI most) a (nI (spn most (spf V n N w0 Λo r m) 5)) (nI 7) = _
      rw [f_X10_spanA_L21, if_pos (by decide)]
      rfl
  obtain ⟨_, kc, ks, e, ln', a, rfl, hG, hF⟩ := hh
  refine ⟨ln', a, c1 + kc, s1 + ks, ?_, G1.tr hG, F1.tr hF⟩
  rw [show (1 : Int32) = nI 1 from rfl, e1, Option.bind_some]
  show addc c1 s1 ((f_J6_bitCount_0f7a4 (nI (sbs V n N w0 Λo (upd r 5 (nI 1)) m))).bind fun x14 => WhC (fun z : (Nat → Nat) × Mm × Int32 × Int32 => f_X10_spanA_L21 sh z.1 (nI m) (bI most) z.2.1 z.2.2.1 z.2.2.2) (l1, a1, x14, (2 : Int32))) = _
  rw [hbc, Option.bind_some, e]
  rfl
end TRIALK
