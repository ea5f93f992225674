-- the law's frame: the class, the reference, the row of one long, side by side
theorem STP.uni {fq : Option (Int32 × Mm)} {gk : Option (((Int32 ⊕ Nat) × Sh × (Nat → Nat) × Mm) × Nat × Nat)} {sh : Sh} {ln : Nat → Nat} {md : Nat → Nat} (h : STP fq gk sh ln md) :
    ∃ r x a sh' ln' b kc ks, gk = some ((r, sh', ln', b), kc, ks) ∧ fq = some (x, a) ∧ (∀ v, r = .inl v → v = x) ∧ a (0, 0) 0 = cdW md r ∧ (∀ cn, r = .inr cn → 1 ≤ md cn ∧ md cn < 4) ∧ REL sh' ln' a b ∧ PAY sh ln sh' ln' kc ks := by
  rcases h with ⟨x, a, sh', ln', b, kc, ks, h1, h2, h3, h4, h5⟩ | ⟨e, x, a, sh', ln', b, kc, ks, h1, h2, h3, h4, h5, h6, h7⟩
  · exact ⟨.inl x, x, a, sh', ln', b, kc, ks, h2, h1, (fun v e => by cases e; rfl), h3, (fun cn e => by cases e), h4, h5⟩
  · exact ⟨.inr e, x, a, sh', ln', b, kc, ks, h1, h2, (fun v e => by cases e), h3, (fun cn e => by cases e; exact ⟨h4, h5⟩), h6, h7⟩
def L3 (D : va_G) (tc : Nat → ClassId) (s : State) (A : Nat → Prop) (oa : Ky → Nat) (aa : Nat → Nat) (sh : Sh) (ln : Nat → Nat) (μk : Mm) (ad : Nat → Nat) (μq : Mm) (o : Nat) (f : Nat → Int64) (H : Heap) (locs : List Loc) : Prop :=
  Wd D (faB oa aa sh) (feB tc oa aa sh ln) A s.heap μk H locs ∧ (wd D (faM ad) (feM tc ad) μq H ∧ (∀ k a, faM ad k = some a → A a) ∧ inj (faM ad)) ∧ (outc tc o f H ∧ A o) ∧ (∀ k k' a, faB oa aa sh k = some a → faM ad k' ≠ some a) ∧ (∀ k, faB oa aa sh k ≠ some o) ∧ ∀ k, faM ad k ≠ some o
def LkW (own : String) (index : Nat) (y : MethodName) (cc : ByteArray) (maxL : Nat) (hh : List (Nat × Nat × Nat × Nat)) (n : Nat) : Prop :=
  (Cond.methodLink own index y ∈ GW ∧ Cond.static y ∈ GW ∧ Cond.initialized y.cls ∈ GW ∧ Cond.codeWith y cc maxL (some .int) hh ∈ GW) ∧ (y.cls ≠ "java/lang/invoke/MethodHandle" ∧ y.cls ≠ "java/lang/invoke/VarHandle" ∧ (parseMethodDescriptor y.desc).map (fun d => d.parameters.length) = some n)
section ROWSV
variable {p : Program} {l : Launch} {e : Env} {R : Room} {s : State} {m : MethodId} {args : Array Value} {below : List Frame} {meth : Method} {c : Code} {H : Heap} {locs : List Loc} {cells slots : Nat} {Q : State → Prop}
variable {ccx : ByteArray} {pc nL : Nat} {ls : Array Slot} {rest st : List Value} {D : va_G} {tc : Nat → ClassId} {ro : Ro} {oa oa' : Ky → Nat} {aa : Nat → Nat} {ad : Nat → Nat} {sh sh' : Sh} {ln ln' : Nat → Nat} {A : Nat → Prop} {μk μk' μq μq' : Mm} {own : String} {b o : Nat} {f : Nat → Int64}
variable {C0 : String} {index n maxL : Nat} {y : MethodName} {bytes : ByteArray} {ret : Option FieldType} {rm : Room} {As : List Value} {lv : List (Nat × Value)} {r : Int32 ⊕ Nat}
theorem L3.wq (h : L3 D tc s A oa aa sh ln μk ad μq o f H locs) : Wd D (faM ad) (feM tc ad) A s.heap μq H locs := ⟨h.2.1.1, h.1.2.1, h.2.1.2.1, h.1.2.2.2.1, h.2.1.2.2⟩
theorem L3.afterQ {H1 : Heap} {L : List Loc} (h : L3 D tc s A oa aa sh ln μk ad μq o f H locs) (h1 : wd D (faM ad) (feM tc ad) μq' H1) (hz : H.size ≤ H1.size) (hk : ∀ q : Nat, q < H.size → ¬ AF (faM ad) H.size q → H1[q]? = H[q]?) (hL : ∀ q ∈ L, AF (faM ad) H.size q.base) : L3 D tc s A oa aa sh ln μk ad μq' o f H1 (locs ++ L) := by
  have hW := h.wq.after h1 hz hk hL
  refine ⟨⟨h.1.1.kept (fun k a ha => hk a (h.1.1.lt ha) (nAF (fun k' e => h.2.2.2.1 k k' a ha e) (h.1.1.lt ha))), hW.2.1, h.1.2.2⟩, ⟨h1, h.2.1.2⟩, ⟨(hk o h.2.2.1.1.lt (nAF h.2.2.2.2.2 h.2.2.1.1.lt)).trans h.2.2.1.1, h.2.2.1.2⟩, h.2.2.2⟩
theorem L3.afterK {aa' : Nat → Nat} {H1 : Heap} {locs1 : List Loc} (h : L3 D tc s A oa aa sh ln μk ad μq o f H locs) (hW : Wd D (faB oa' aa' sh') (feB tc oa' aa' sh' ln') A s.heap μk' H1 locs1) (hf0 : ∀ k a, faB oa' aa' sh' k = some a → AF (faB oa aa sh) H.size a) (hkp : ∀ q : Nat, q < H.size → ¬ AF (faB oa aa sh) H.size q → H1[q]? = H[q]?) : L3 D tc s A oa' aa' sh' ln' μk' ad μq o f H1 locs1 := by
  have hq : ∀ k a, faM ad k = some a → ¬ AF (faB oa aa sh) H.size a := fun k a ha => nAF (fun k' e => h.2.2.2.1 k' k a e ha) (h.2.1.1.lt ha)
  have ho := nAF h.2.2.2.2.1 h.2.2.1.1.lt
  refine ⟨hW, ⟨h.2.1.1.kept (fun k a ha => hkp a (h.2.1.1.lt ha) (hq k a ha)), h.2.1.2⟩, ⟨(hkp o h.2.2.1.1.lt ho).trans h.2.2.1.1, h.2.2.1.2⟩, fun k k' a ha ha' => hq k' a ha' (hf0 k a ha), fun k ha => ho (hf0 k o ha), h.2.2.2.2.2⟩
/-- the reference is called -/
theorem r_lawQ {rv : Option Value} (C : Cx p s m args c own ccx nL D tc ro A) (h : L3 D tc s A oa aa sh ln μk ad μq o f H locs) (hl : lv_has ls nL lv) (K : LkV own index RX11 y bytes maxL ret n) (hM : Ct l D tc ro (faM ad) (feM tc ad) y bytes maxL ret rm (.ref (ad 0) :: As) μq rv μq') (hrm : rm.cells = 0 ∧ rm.slots = 0)
    (hR : rm.frames + 1 ≤ R.frames ∧ 8 + (maxL + 11) + rm.locals ≤ R.locals) (hn : As.length = n) (hst : st = As.reverse ++ .ref (ad 0) :: rest) (hw : (rest.map fun v => v.category).sum ≤ 8) (hdg : decode ccx pc = .ok (.invokevirtual index, 3)) (hf : cells ≤ R.cells ∧ slots ≤ R.slots)
    (kk : ∀ (H1 : Heap) (locs1 : List Loc), L3 D tc s A oa aa sh ln μk ad μq' o f H1 locs1 → W p l e R s m args below meth c H1 locs1 cells slots Q (F0 m (pc + 3) ls (rv.toList ++ rest))) : W p l e R s m args below meth c H locs cells slots Q (F0 m pc ls st) := by
  have C' := C
  have hW := h.wq
  obtain ⟨⟨hx, hb, hml, hown, hts⟩, hK, hro⟩ := C
  obtain ⟨⟨k1, k2, k3, k4, k5⟩, k6⟩ := K
  have hG : GoodIn GW (wsV own index RX11 y (wy y bytes maxL ret)) := by
    intro w hw
    rcases List.mem_append.mp hw with hw | hw
    · simp only [List.mem_cons, List.not_mem_nil, or_false] at hw
      rcases hw with rfl | rfl | rfl | rfl
      · exact ⟨k1, gw_good k1⟩
      · exact ⟨k2, gw_good k2⟩
      · exact ⟨k3, gw_good k3⟩
      · exact ⟨k4, gw_good k4⟩
    · exact gw_wy k5 w hw
  have hW0 := hW
  obtain ⟨⟨ws, h1', hP, hD⟩, hS, hA, hZ, hi⟩ := hW0
  obtain ⟨q0, hq⟩ := h1'.get (k := (0, 0)) (a := ad 0) rfl
  have hq : ws[q0]? = some (ad 0, .inr (11, fsM ad (μq (0, 0)))) := hq
  subst hst
  refine r_run (va_runV C'.1 (hM H.size) (cwV n hts hG rfl hrm.1 hrm.2 k6 hR) ⟨Ctp.blind, va_recv hK hP (ci := 11) rfl hq, fun U hU hWm => ⟨rfl, by rw [hU], by rw [hU]; exact hW.1, va_K.moved hWm.alike hK, hW.2.2.2.2, hro.kept hW.2.1 hW.sub hU hWm⟩⟩ rfl hn hl.1 rfl (lv_room hw) hdg hf) ?_
  intro v st₀ t H1 L e0 e1 hL hq2
  obtain ⟨z1, z2, z3⟩ := hq2
  cases z1
  subst e1
  subst e0
  exact kk _ _ (h.afterQ z2 z3.1 z3.2 hL)
/-- a wrapper is called -/
theorem r_lawW {hh : List (Nat × Nat × Nat × Nat)} {cd : Int32} {lvo : Option Int64} (C : Cx p s m args c own ccx nL D tc ro A) (hU : ZqU A s s.heap) (hN : ZqN A s s.heap) (hnc : NcT s) (h : L3 D tc s A oa aa sh ln μk ad μq o f H locs) (hl : lv_has ls nL lv) (K : LkW own index y bytes maxL hh n) (hM : CtW l D tc ro oa y bytes maxL hh rm As sh ln μk cd lvo sh' ln' μk')
    (hR : rm.frames + 1 ≤ R.frames ∧ 8 + (maxL + 11) + rm.locals ≤ R.locals) (hn : As.length + 2 = n) (hst : st = .ref o :: (As.reverse ++ .ref (oa (0, 0)) :: rest)) (hw : (rest.map fun v => v.category).sum ≤ 8) (hdg : decode ccx pc = .ok (.invokestatic index, 3)) (hf : cells + rm.cells ≤ R.cells ∧ slots + rm.slots ≤ R.slots)
    (kk : ∀ (oa' : Ky → Nat) (aa' : Nat → Nat) (f' : Nat → Int64) (H1 : Heap) (locs1 : List Loc), oa' (0, 0) = oa (0, 0) → (∀ v, lvo = some v → f' 0 = v) → L3 D tc s A oa' aa' sh' ln' μk' ad μq o f' H1 locs1 → W p l e R s m args below meth c H1 locs1 (cells + rm.cells) (slots + rm.slots) Q (F0 m (pc + 3) ls (.int cd :: rest))) : W p l e R s m args below meth c H locs cells slots Q (F0 m pc ls st) := by
  have C' := C
  have hW := h.1
  obtain ⟨⟨hx, hb, hml, hown, hts⟩, hK, hro⟩ := C
  obtain ⟨⟨k1, k2, k3, k4⟩, k6⟩ := K
  have hG : GoodIn GW (va_wsS own index y (wyW y bytes maxL hh)) := by
    intro w hw
    rcases List.mem_append.mp hw with hw | hw
    · simp only [List.mem_cons, List.not_mem_nil, or_false] at hw
      rcases hw with rfl | rfl | rfl
      · exact ⟨k1, gw_good k1⟩
      · exact ⟨k2, gw_good k2⟩
      · exact ⟨k3, gw_good k3⟩
    · rcases List.mem_cons.mp hw with rfl | hw
      · exact ⟨k4, gw_good k4⟩
      · exact ⟨hw, gw_good hw⟩
  have hsub : ∀ q, ApO (faB oa aa sh) H.size o q → A q := fun q hq => hq.elim (hW.sub q) (fun e => by rw [e]; exact h.2.2.1.2)
  have e : st = (.ref (oa (0, 0)) :: (As ++ [.ref o])).reverse ++ rest := by rw [hst]; simp
  subst e
  refine r_run (vx_runSW C'.1 (hM aa o f H.size) (vx_cwSW n hts hG rfl rfl rfl k6 hR) ⟨Wpre.blind, fun U hU2 hWm => ⟨rfl, ⟨by rw [hU2], by rw [hU2]; exact hW.1, va_K.moved hWm.alike hK, hW.2.2.2.2, hro.kept hW.2.1 hsub hU2 hWm⟩, ⟨by rw [hU2]; exact h.2.2.1.1, h.2.2.2.2.1⟩, by rw [hU2]; exact vx_Zq.moved hWm.alike ((hU.kept hW.2.1.2.1).narrow hsub), by rw [hU2]; exact ⟨vx_Zq.moved hWm.alike ((hN.1.kept hW.2.1.2.1).narrow hsub), hN.2.warm hWm⟩, hnc.moved hWm.alike⟩⟩ rfl (by rw [← hn]; simp) hl.1 rfl (lv_room hw) hdg hf) ?_
  intro v st₀ t H1 L e0 e1 hL hq2
  obtain ⟨z1, ⟨oa', hg, aa', z2, z4, z5⟩, ⟨f', z6, z7⟩, z3⟩ := hq2
  cases z1
  subst e1
  subst e0
  have hS1 : va_S A s.heap t.heap (locs ++ L) := ⟨Nat.le_trans hW.2.1.1 z3.1, fun q h2 h3 => by rw [z3.2 q (Nat.lt_of_lt_of_le h2 hW.2.1.1) (fun z => h3 (hsub q z))]; exact hW.2.1.2.1 q h2 h3, fun q hq => by
    rcases List.mem_append.mp hq with h5 | h5
    · exact hW.2.1.2.2 q h5
    · exact hsub _ (hL q h5)⟩
  have hqa : ∀ k a, faM ad k = some a → ¬ AF (faB oa aa sh) st₀.heap.size a := fun k a ha => nAF (fun k' e => h.2.2.2.1 k' k a e ha) (h.2.1.1.lt ha)
  have hoa := nAF h.2.2.2.2.1 h.2.2.1.1.lt
  have hqk : ∀ k a, faM ad k = some a → t.heap[a]? = st₀.heap[a]? := fun k a ha => z3.2 a (h.2.1.1.lt ha) (fun z => z.elim (hqa k a ha) (fun e => h.2.2.2.2.2 k (by rw [← e]; exact ha)))
  exact kk oa' aa' f' _ _ hg.bv z7 ⟨⟨z2, hS1, fun k a ha => hW.sub a (z4 k a ha), hW.2.2.2.1, z5⟩, ⟨h.2.1.1.kept hqk, h.2.1.2⟩, ⟨z6, h.2.2.1.2⟩, fun k k' a ha ha' => hqa k' a ha' (z4 k a ha), fun k ha => hoa (z4 k o ha), h.2.2.2.2.2⟩
/-- the class is called, and answers -/
theorem r_lawG {rv : Int32 → Option Value} {x : Int32} (C : Cx p s m args c own ccx nL D tc ro A) (hU : ZqU A s s.heap) (hN : ZqN A s s.heap) (h : L3 D tc s A oa aa sh ln μk ad μq o f H locs) (hl : lv_has ls nL lv) (K : LkV own index RX10 y bytes maxL ret n) (hM : CtR l D tc ro oa y bytes maxL ret rm (.ref (oa (0, 0)) :: As) sh ln μk rv (.inl x) sh' ln' μk')
    (hR : rm.frames + 1 ≤ R.frames ∧ 8 + (maxL + 11) + rm.locals ≤ R.locals) (hn : As.length = n) (hst : st = As.reverse ++ .ref (oa (0, 0)) :: rest) (hw : (rest.map fun v => v.category).sum ≤ 8) (hdg : decode ccx pc = .ok (.invokevirtual index, 3)) (hf : cells + rm.cells ≤ R.cells ∧ slots + rm.slots ≤ R.slots)
    (kk : ∀ (oa' : Ky → Nat) (aa' : Nat → Nat) (H1 : Heap) (locs1 : List Loc), oa' (0, 0) = oa (0, 0) → L3 D tc s A oa' aa' sh' ln' μk' ad μq o f H1 locs1 → W p l e R s m args below meth c H1 locs1 (cells + rm.cells) (slots + rm.slots) Q (F0 m (pc + 3) ls ((rv x).toList ++ rest))) : W p l e R s m args below meth c H locs cells slots Q (F0 m pc ls st) := by
  refine r_callG (k := ((0, 0) : Ky)) (C0 := RX10) C hU hN h.1 hl K hM hR (ci := 10) rfl rfl rfl hn hst hw hdg hf (fun x2 hx2 oa' aa' H1 locs1 hg hW hf0 hz hkp => ?_) (fun cn hcn => by cases hcn)
  cases hx2
  exact kk oa' aa' H1 locs1 hg.bv (h.afterK hW hf0 hkp)
end ROWSV
