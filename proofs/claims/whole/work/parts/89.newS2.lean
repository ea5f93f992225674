-- the walk of 'new State()' in a world, and where the State is put
theorem agrS {oa : Ky → Nat} {sh : Sh} {j q : Nat} {u : Nat → Nat} (h0 : sh 2 j = 0) : AGR sh oa (oaS oa j q u) := by
  rintro ⟨x, y⟩ hk
  unfold oaS
  by_cases e : ((x, y) : Ky) = (13, j)
  · cases e
    have hk : (if sh 2 j = 1 then some 0 else none : Option Nat).isSome = true := hk
    rw [if_neg (by omega)] at hk
    cases hk
  · rw [if_neg e]
    by_cases e2 : x = 11 ∧ 15 + 5 * j ≤ y ∧ y < 20 + 5 * j
    · obtain ⟨rfl, e3, e4⟩ := e2
      have hk : (if cex sh y = true then some 0 else none : Option Nat).isSome = true := hk
      have : cex sh y = false := by
        unfold cex
        rw [show (y - 15) / 5 = j by omega, h0]
        simp
        omega
      rw [this] at hk
      cases hk
    · rw [if_neg e2]
section ROWSN
variable {p : Program} {l : Launch} {e : Env} {R : Room} {s : State} {m : MethodId} {args : Array Value} {below : List Frame} {meth : Method} {c : Code} {H : Heap} {locs : List Loc} {cells slots : Nat} {Q : State → Prop}
variable {ccx : ByteArray} {pc nL : Nat} {ls : Array Slot} {rest : List Value} {D : va_G} {tc : Nat → ClassId} {ro : Ro} {oa oa' : Ky → Nat} {aa aa' : Nat → Nat} {sh : Sh} {ln : Nat → Nat} {A : Nat → Prop} {μ : Mm} {lv : List (Nat × Value)}
set_option maxHeartbeats 2000000 in
theorem r_newState (C : Cx p s m args c RX10 ccx nL D tc ro A) (hW : Wd D (faB oa aa sh) (feB tc oa aa sh ln) A s.heap μ H locs) (hl : lv_has ls nL lv) {j : Nat} (h0 : sh 2 j = 0) (hfr : frl ln j = true) (hv : μ (6, 0) 12 = 0 ∨ (μ (6, 0) 12).toNatClampNeg - 1 ≠ j)
    (d0 : decode ccx pc = .ok (.new 53, 3)) (d3 : decode ccx (pc + 3) = .ok (.dup, 1)) (d4 : decode ccx (pc + 4) = .ok (.invokespecial 59, 3)) (hR : 3 + 1 ≤ R.frames ∧ 8 + (1 + 11) + 80 ≤ R.locals) (hw : (rest.map fun v => v.category).sum ≤ 6) (hf : cells + 11 ≤ R.cells ∧ slots + 40 ≤ R.slots)
    (kk : ∀ (oa' : Ky → Nat) (aa' : Nat → Nat) (H1 : Heap) (locs1 : List Loc), AGR sh oa oa' → Wd D (faB oa' aa' (shs sh 2 j 1)) (feO tc oa oa' aa' sh (shs sh 2 j 1) ln) A s.heap (fresh j μ) H1 locs1 → W p l e R s m args below meth c H1 locs1 (cells + 11) (slots + 40) Q (F0 m (pc + 7) ls (.ref (oa' (13, j)) :: rest))) : W p l e R s m args below meth c H locs cells slots Q (F0 m pc ls rest) := by
  have hx := C.1.1
  have hb := C.1.2.1
  refine r_newo (kN := (99, 0)) (ci := 6) (T := TX6) (N := 16) C hW rfl rfl kin_X6 tyX6_ok kw_372 kw_374 kw_147 (fun _ => [.int 0, .int 0, .int 0, .int 0, .int 0, .int 0, .int 0, .int 0, .null, .null, .null, .null, .null, .null, .int 0, .int 0]) dfX6 (by omega) (by omega) d0 (fun q H hW => ?_)
  refine lv_dup hx hb d3 rfl ?_
  show W p l e R s m args below meth c H locs (cells + 1) (slots + 16) Q (F0 m (pc + 4) ls (.ref q :: .ref q :: rest))
  refine r_initW (kN := (99, 0)) (b := q) (As := []) (rest := .ref q :: rest) (F := FX6 tc q) C hW hl lki_X10_59 cL_X6_init (fax_self _ _ _) (fex_self _ _ _ _) ⟨hR.1, hR.2⟩ rfl rfl (by simp only [List.map_cons, List.sum_cons]; show 1 + _ ≤ 8; omega) d4 ⟨by show cells + 1 + 10 ≤ _; omega, by show slots + 16 + 24 ≤ _; omega⟩ (fun u H1 locs1 hP hD hS hz hk => ?_)
  have hi : inj (faB oa aa sh) := fun i j a hi hj => hW.2.2.2.2 i j a (by rw [fax_ne (ne99 hi)]; exact hi) (by rw [fax_ne (ne99 hj)]; exact hj)
  have hold : wd D (faB oa aa sh) (feB tc oa aa sh ln) μ H := hW.1.reindex (fun k a hk => ⟨k, by rw [fax_ne (ne99 hk)]; exact hk, by rw [fex_ne (ne99 hk), mro_ne (ne99 hk)]⟩)
  have hqn : ∀ k a, faB oa aa sh k = some a → a ≠ q := fun k a hk e => ne99 hk (hW.2.2.2.2 k (99, 0) a (by rw [fax_ne (ne99 hk)]; exact hk) (by rw [fax_self, e]))
  have hold1 := hold.kept (H1 := H1) (fun k a hk2 => hk a (hold.lt hk2) (hqn k a hk2))
  have hin : ∀ z ∈ FX6 tc q u, z.1 = q ∨ H.size ≤ z.1 := fun z hz => by
    obtain ⟨i, hi2⟩ := List.mem_iff_getElem?.mp hz
    rcases hD.2 i z hi2 with ⟨i', e', h'⟩ | h'
    · have := List.mem_of_getElem? h'
      simp only [List.mem_singleton, Prod.mk.injEq] at this
      exact Or.inl this.1
    · exact Or.inr h'
  have hxx : ∀ k a, faB oa aa sh k = some a → ∀ z ∈ FX6 tc q u, z.1 ≠ a := fun k a hk2 z hz e => by
    rcases hin z hz with h | h
    · exact hqn k a hk2 (e.symm.trans h)
    · have := hold.lt hk2
      omega
  obtain ⟨g1, g2, g3⟩ := state_new hold1 hi hP (hD.weaken (fun _ _ _ _ => trivial)) hxx h0 hfr hv
  have key := kk (oaS oa j q u) (aaS aa j u) H1 locs1 (agrS h0) ⟨g1, hS, fun k a ha => ?_, hW.2.2.2.1, g2⟩
  · rw [oaS_j] at key
    exact key
  · rcases g3 k a ha with h | ⟨e, h⟩
    · exact hW.2.2.1 k a (by rw [fax_ne (ne99 h)]; exact h)
    · rcases hin _ h with h2 | h2
      · have h2 : a = q := h2
        rw [h2]
        exact hW.2.2.1 (99, 0) q (fax_self _ _ _)
      · exact hW.2.2.2.1 a (Nat.le_trans hW.2.1.1 h2)
theorem fsBV_e (hwf : WfS sh) (hg : AGR sh oa oa') {sh' : Sh} {r : Nat → Int32} (h9 : sh 2 ((r 9).toNatClampNeg) = 1) (h10 : sh 2 ((r 10).toNatClampNeg) = 1) (hk : sh' 2 10 = sh 2 10) : fsBV oa' sh' r = fsBV oa sh r := by
  unfold fsBV
  rw [hg (2, 0) rfl, hg (3, 0) rfl, hg (4, 0) rfl, hg (5, 0) rfl, hg (6, 0) rfl, hg (6, 1) rfl, hg (1, 0) rfl, hg.st h9, hg.st h10, hk]
  by_cases e : sh 2 10 = 0
  · rw [if_pos e, if_pos e]
  · rw [if_neg e, if_neg e, hg.st ((hwf 10).resolve_left e)]
/-- past[i] = the State -/
theorem r_pastStore {j : Nat} {i : Int32} {A0 : Nat} (C : Cx p s m args c RX10 ccx nL D tc ro A) (hwf : WfS sh) (hg : AGR sh oa oa') (hW : Wd D (faB oa' aa' (shs sh 2 j 1)) (feO tc oa oa' aa' sh (shs sh 2 j 1) ln) A s.heap μ H locs) (hin : vp_in i 8) (hj : j = 2 + i.toNatClampNeg)
    (h9 : sh 2 ((μ (0, 0) 9).toNatClampNeg) = 1) (h10 : sh 2 ((μ (0, 0) 10).toNatClampNeg) = 1) (hA0 : A0 = oa' (1, 0)) (hdg : decode ccx pc = .ok (.aastore, 1))
    (kk : ∀ (H1 : Heap) (locs1 : List Loc), Wd D (faB oa' aa' (shs sh 2 j 1)) (feB tc oa' aa' (shs sh 2 j 1) ln) A s.heap μ H1 locs1 → W p l e R s m args below meth c H1 locs1 cells slots Q (F0 m (pc + 1) ls rest)) : W p l e R s m args below meth c H locs cells slots Q (F0 m pc ls (.ref (oa' (13, j)) :: .int i :: .ref A0 :: rest)) := by
  subst hA0
  obtain ⟨⟨hx, hb, hml, hown, hts⟩, hK, hro⟩ := C
  obtain ⟨⟨ws, h1, hP, hD⟩, hS, hA, hZ, hi⟩ := hW
  have hs1 : shs sh 2 j 1 2 j = 1 := by unfold shs; rw [if_pos ⟨rfl, rfl⟩]
  have ha : faB oa' aa' (shs sh 2 j 1) (1, 0) = some (oa' (1, 0)) := rfl
  have hq13 : faB oa' aa' (shs sh 2 j 1) (13, j) = some (oa' (13, j)) := faB_13 hs1
  obtain ⟨q0, hq⟩ := h1.get ha
  obtain ⟨qk, hqk⟩ := h1.get hq13
  rw [feO_o (by simp) (by simp)] at hqk
  have hq2 : ws[q0]? = some (oa' (1, 0), .inl (tc 3, 8, .inr (.inr (.inr (.inr (fun x => if sh 2 (2 + x) = 0 then none else some (oa (13, 2 + x)))))))) := by
    rw [hq]
    unfold feO
    rw [if_neg (by simp), if_pos rfl]
    rfl
  have hlt : i.toNatClampNeg < 8 := Nat.not_le.mp fun q => hin (Or.inr q)
  refine va_astq (ws := ws) hx hb hK hP (h1.A hD hA) hS q0 3 qk 6 (r := (RX6, TX6, 16)) hq2 rfl hqk rfl hin hdg (fun H1 locs1 hP1 hD1 hS1 => kk H1 locs1 ⟨⟨_, ?_, hP1, hD1.weaken (fun _ _ _ _ => trivial)⟩, hS1, hA, hZ, hi⟩)
  refine h1.setG hi hD ha hq ?_ (fun k hk => ?_)
  · show (Sum.inl (tc 3, 8, .inr (.inr (.inr (.inr (fun x => if shs sh 2 j 1 2 (2 + x) = 0 then none else some (oa' (13, 2 + x))))))) : va_E) = _
    refine congrArg (fun f => (Sum.inl (tc 3, 8, .inr (.inr (.inr (.inr f)))) : va_E)) (funext fun x => ?_)
    unfold va_up
    by_cases e : x = i.toNatClampNeg
    · rw [if_pos e, e, ← hj, hs1, if_neg (by omega)]
    · rw [if_neg e, shs_o (by omega)]
      show (if sh 2 (2 + x) = 0 then none else some (oa' (13, 2 + x))) = (if sh 2 (2 + x) = 0 then none else some (oa (13, 2 + x)))
      by_cases e2 : sh 2 (2 + x) = 0
      · rw [if_pos e2, if_pos e2]
      · rw [if_neg e2, if_neg e2, hg.st ((hwf _).resolve_left e2)]
  · by_cases e : k = (0, 0)
    · subst e
      unfold feO
      rw [if_pos rfl]
      show (Sum.inr (10, fsBV oa' (shs sh 2 j 1) (μ (0, 0))) : va_E) = _
      rw [fsBV_e hwf hg h9 h10 (shs_o (by omega))]
    · rw [feO_o e hk]
end ROWSN
