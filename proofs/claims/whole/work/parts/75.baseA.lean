-- calls that may make cells: arrays of the rows of whole numbers get longer
-- a loop that counts what it spends
def Cta (D : va_G) (tc : Nat → ClassId) (oa : Ky → Nat) (rv : Option Value) (sh : Sh) (ln : Nat → Nat) (μ : Mm) (A : Nat → Prop) : Array Value → State → Outcome → State → Prop := fun _ st oc t =>
  oc = .returned rv ∧ (∃ aa, wd D (faB oa aa sh) (feB tc oa aa sh ln) μ t.heap ∧ (∀ k a, faB oa aa sh k = some a → A a) ∧ inj (faB oa aa sh)) ∧ va_F A st t
def CtA (l : Launch) (D : va_G) (tc : Nat → ClassId) (ro : Ro) (oa : Ky → Nat) (y : MethodName) (cc : ByteArray) (maxL : Nat) (ret : Option FieldType) (rm : Room) (av : List Value) (sh : Sh) (ln : Nat → Nat) (μ : Mm) (rv : Option Value) (ln' : Nat → Nat) (μ' : Mm) : Prop :=
  ∀ (aa : Nat → Nat) (sz : Nat), Met l y (wy y cc maxL ret) rm (va_Pc av (Ctp D tc ro (faB oa aa sh) (feB tc oa aa sh ln) μ sz)) (Cta D tc oa rv sh ln' μ' (AF (faB oa aa sh) sz)) rm.cells rm.slots (AF (faB oa aa sh) sz)
theorem CtA.of {l : Launch} {D : va_G} {tc : Nat → ClassId} {ro : Ro} {oa : Ky → Nat} {y : MethodName} {cc : ByteArray} {maxL : Nat} {ret : Option FieldType} {rm : Room} {av : List Value} {sh : Sh} {ln : Nat → Nat} {μ : Mm} {rv : Option Value} {ln' : Nat → Nat} {μ' : Mm}
    (hy : plainName y.cls = true) (hlen : (lg_sl av).length ≤ maxL)
    (body : ∀ (aa : Nat → Nat) (p : Program) (e : Env) (s : State) (m : MethodId) (args : Array Value) (below : List Frame) (meth : Method) (c : Code) (A : Nat → Prop), Cx p s m args c y.cls cc maxL D tc ro A → meth.sig.returnType = ret → meth.locks = false → Wd D (faB oa aa sh) (feB tc oa aa sh ln) A s.heap μ s.heap [] →
      ∀ ls : Array Slot, lv_has ls maxL (lv_args 0 av) → W p l e rm s m args below meth c s.heap [] 0 0 (MQ below (Cta D tc oa rv sh ln' μ' A) args s rm.cells rm.slots A) (F0 m 0 ls [])) :
    CtA l D tc ro oa y cc maxL ret rm av sh ln μ rv ln' μ' := by
  intro aa sz
  refine Met.ofW (cc := cc) (maxL := maxL) (ret := ret) hy rfl ?_
  intro p e s m args below meth c s₁ B hml hv
  obtain ⟨rfl, hsz, hw, hK, hi, hro⟩ := hv
  subst hsz
  have hts := atoms_spec (ws := wy y cc maxL ret) B.pre
  have hl := lv_entry av (n := maxL) hlen
  rw [lg_entry_eq]
  exact body aa p e s m _ below meth c _ ⟨⟨B.exec, B.bytes, hml, findClass_of_methodNamed B.named, fun w h => hts w (List.mem_cons_of_mem _ h)⟩, hK, hro⟩ B.returns B.notSynchronized ⟨hw, va_S.rf, fun k a h => Or.inl ⟨k, h⟩, fun q h => Or.inr h, hi⟩ _ hl
section ENDSA
variable {p : Program} {l : Launch} {e : Env} {R : Room} {s : State} {m : MethodId} {args : Array Value} {below : List Frame} {meth : Method} {c : Code} {H : Heap} {locs : List Loc} {cells slots : Nat}
variable {cc : ByteArray} {pc nL : Nat} {ls : Array Slot} {D : va_G} {tc : Nat → ClassId} {ro : Ro} {oa : Ky → Nat} {aa : Nat → Nat} {sh : Sh} {ln : Nat → Nat} {A : Nat → Prop} {μ : Mm} {own : String} {C1 S1 : Nat}
theorem r_iretA (C : Cx p s m args c own cc nL D tc ro A) (hr : meth.sig.returnType = some .int) (hk : meth.locks = false) (hW : Wd D (faB oa aa sh) (feB tc oa aa sh ln) A s.heap μ H locs) {v : Int32} (h1 : cells ≤ C1) (h2 : slots ≤ S1) (hdg : decode cc pc = .ok (.ireturn, 1)) :
    W p l e R s m args below meth c H locs cells slots (MQ below (Cta D tc oa (some (.int v)) sh ln μ A) args s C1 S1 A) (F0 m pc ls [.int v]) := by
  obtain ⟨⟨hx, hb, -, -, -⟩, -, -⟩ := C
  refine W.widen h1 h2 ?_
  exact W.iret hx hb hr (fun t ht _ => ⟨rfl, ⟨aa, by rw [ht]; exact hW.1, hW.2.2.1, hW.2.2.2.2⟩, hW.2.1.F ht⟩) hW.2.1.2.2 hdg hk
theorem r_zretA (C : Cx p s m args c own cc nL D tc ro A) (hr : meth.sig.returnType = some .boolean) (hk : meth.locks = false) (hW : Wd D (faB oa aa sh) (feB tc oa aa sh ln) A s.heap μ H locs) {v : Int32} (hn : v = 0 ∨ v = 1) (h1 : cells ≤ C1) (h2 : slots ≤ S1) (hdg : decode cc pc = .ok (.ireturn, 1)) :
    W p l e R s m args below meth c H locs cells slots (MQ below (Cta D tc oa (some (.int v)) sh ln μ A) args s C1 S1 A) (F0 m pc ls [.int v]) := by
  obtain ⟨⟨hx, hb, -, -, -⟩, -, -⟩ := C
  refine W.widen h1 h2 ?_
  exact W.zret hx hb hr (by rcases hn with rfl | rfl <;> rfl) (fun t ht _ => ⟨rfl, ⟨aa, by rw [ht]; exact hW.1, hW.2.2.1, hW.2.2.2.2⟩, hW.2.1.F ht⟩) hW.2.1.2.2 hdg hk
theorem r_vretA (C : Cx p s m args c own cc nL D tc ro A) (hr : meth.sig.returnType = none) (hk : meth.locks = false) (hW : Wd D (faB oa aa sh) (feB tc oa aa sh ln) A s.heap μ H locs) (h1 : cells ≤ C1) (h2 : slots ≤ S1) (hdg : decode cc pc = .ok (.return_, 1)) :
    W p l e R s m args below meth c H locs cells slots (MQ below (Cta D tc oa none sh ln μ A) args s C1 S1 A) (F0 m pc ls []) := by
  obtain ⟨⟨hx, hb, -, -, -⟩, -, -⟩ := C
  refine W.widen h1 h2 ?_
  exact W.vret hx hb hr (fun t ht _ => ⟨rfl, ⟨aa, by rw [ht]; exact hW.1, hW.2.2.1, hW.2.2.2.2⟩, hW.2.1.F ht⟩) hW.2.1.2.2 hdg hk
end ENDSA
section CALLSA
variable {p : Program} {l : Launch} {e : Env} {R : Room} {s : State} {m : MethodId} {args : Array Value} {below : List Frame} {meth : Method} {c : Code} {H : Heap} {locs : List Loc} {cells slots : Nat} {Q : State → Prop}
variable {ccx : ByteArray} {pc nL : Nat} {ls : Array Slot} {rest st : List Value} {D : va_G} {tc : Nat → ClassId} {ro : Ro} {oa : Ky → Nat} {aa : Nat → Nat} {sh : Sh} {ln ln' : Nat → Nat} {A : Nat → Prop} {μ μ' : Mm} {own owner : String} {k : Ky} {b : Nat}
variable {C0 : String} {index n maxL : Nat} {x y : MethodName} {bytes : ByteArray} {ret : Option FieldType} {rm : Room} {As : List Value} {rv : Option Value} {lv : List (Nat × Value)} {c1 s1 : Nat}
theorem Wd.afterA {H1 : Heap} {L : List Loc} (hW : Wd D (faB oa aa sh) (feB tc oa aa sh ln) A s.heap μ H locs) {fa' : Fa} {fe' : Fe} (h1 : wd D fa' fe' μ' H1) (h2 : ∀ k a, fa' k = some a → AF (faB oa aa sh) H.size a) (h3 : inj fa') (hz : H.size ≤ H1.size) (hk : ∀ q : Nat, q < H.size → ¬ AF (faB oa aa sh) H.size q → H1[q]? = H[q]?) (hL : ∀ q ∈ L, AF (faB oa aa sh) H.size q.base) : Wd D fa' fe' A s.heap μ' H1 (locs ++ L) := by
  have hAA := hW.sub
  refine ⟨h1, ⟨Nat.le_trans hW.2.1.1 hz, fun q h2 h3 => ?_, fun q hq => ?_⟩, fun k a h => hAA a (h2 k a h), hW.2.2.2.1, h3⟩
  · rw [hk q (Nat.lt_of_lt_of_le h2 hW.2.1.1) (fun z => h3 (hAA q z))]
    exact hW.2.1.2.1 q h2 h3
  · rcases List.mem_append.mp hq with h | h
    · exact hW.2.1.2.2 q h
    · exact hAA _ (hL q h)
theorem r_callA (C : Cx p s m args c own ccx nL D tc ro A) (hW : Wd D (faB oa aa sh) (feB tc oa aa sh ln) A s.heap μ H locs) (hl : lv_has ls nL lv) (K : LkV own index C0 y bytes maxL ret n) (hM : CtA l D tc ro oa y bytes maxL ret rm (.ref b :: As) sh ln μ rv ln' μ')
    (hR : rm.frames + 1 ≤ R.frames ∧ 8 + (maxL + 11) + rm.locals ≤ R.locals) {T : u_T} {N ci : Nat} (hc : cls[ci]? = some (C0, T, N)) (ha : faB oa aa sh k = some b) {fs : List Value} (he : feB tc oa aa sh ln k (μ k) = .inr (ci, fs))
    (hn : As.length = n) (hst : st = As.reverse ++ .ref b :: rest) (hw : (rest.map fun v => v.category).sum ≤ 8) (hdg : decode ccx pc = .ok (.invokevirtual index, 3)) (hf : cells + rm.cells ≤ R.cells ∧ slots + rm.slots ≤ R.slots)
    (kk : ∀ (aa' : Nat → Nat) (H1 : Heap) (locs1 : List Loc), Wd D (faB oa aa' sh) (feB tc oa aa' sh ln') A s.heap μ' H1 locs1 → W p l e R s m args below meth c H1 locs1 (cells + rm.cells) (slots + rm.slots) Q (F0 m (pc + 3) ls (rv.toList ++ rest))) : W p l e R s m args below meth c H locs cells slots Q (F0 m pc ls st) := by
  have C' := C
  obtain ⟨⟨hx, hb, hml, hown, hts⟩, hK, hro⟩ := C
  obtain ⟨⟨k1, k2, k3, k4, k5⟩, k6⟩ := K
  have hG : GoodIn GW (wsV own index C0 y (wy y bytes maxL ret)) := by
    intro w hw
    rcases List.mem_append.mp hw with hw | hw
    · simp only [List.mem_cons, List.not_mem_nil, or_false] at hw
      rcases hw with rfl | rfl | rfl | rfl
      · exact ⟨k1, gw_good k1⟩
      · exact ⟨k2, gw_good k2⟩
      · exact ⟨k3, gw_good k3⟩
      · exact ⟨k4, gw_good k4⟩
    · exact gw_wy k5 w hw
  have hW0 := hW
  obtain ⟨⟨ws, h1, hP, hD⟩, hS, hA, hZ, hi⟩ := hW0
  obtain ⟨q0, hq⟩ := h1.get ha
  rw [he] at hq
  subst hst
  refine r_run (va_runV C'.1 (hM aa H.size) (cwV n hts hG rfl rfl rfl k6 hR) ⟨Ctp.blind, va_recv hK hP hc hq, fun U hU hWm => ⟨rfl, by rw [hU], by rw [hU]; exact hW.1, va_K.moved hWm.alike hK, hW.2.2.2.2, hro.kept hW.2.1 hW.sub hU hWm⟩⟩ rfl hn hl.1 rfl (lv_room hw) hdg hf) ?_
  intro v st₀ t H1 L e0 e1 hL hq2
  obtain ⟨z1, ⟨aa', z2, z4, z5⟩, z3⟩ := hq2
  cases z1
  subst e1
  subst e0
  exact kk aa' _ _ (hW.afterA z2 z4 z5 z3.1 z3.2 hL)
theorem r_callAU (C : Cx p s m args c own ccx nL D tc ro A) (hW : Wd D (faB oa aa sh) (feB tc oa aa sh ln) A s.heap μ H locs) (hl : lv_has ls nL lv) (K : LkU own index C0 owner x y bytes maxL ret n) (hM : CtA l D tc ro oa y bytes maxL ret rm (.ref b :: As) sh ln μ rv ln' μ')
    (hR : rm.frames + 1 ≤ R.frames ∧ 8 + (maxL + 11) + rm.locals ≤ R.locals) {T : u_T} {N ci : Nat} (hc : cls[ci]? = some (C0, T, N)) (ha : faB oa aa sh k = some b) {fs : List Value} (he : feB tc oa aa sh ln k (μ k) = .inr (ci, fs))
    (hn : As.length = n) (hst : st = As.reverse ++ .ref b :: rest) (hw : (rest.map fun v => v.category).sum ≤ 8) (hdg : decode ccx pc = .ok (.invokevirtual index, 3)) (hf : cells + rm.cells ≤ R.cells ∧ slots + rm.slots ≤ R.slots)
    (kk : ∀ (aa' : Nat → Nat) (H1 : Heap) (locs1 : List Loc), Wd D (faB oa aa' sh) (feB tc oa aa' sh ln') A s.heap μ' H1 locs1 → W p l e R s m args below meth c H1 locs1 (cells + rm.cells) (slots + rm.slots) Q (F0 m (pc + 3) ls (rv.toList ++ rest))) : W p l e R s m args below meth c H locs cells slots Q (F0 m pc ls st) := by
  have C' := C
  obtain ⟨⟨hx, hb, hml, hown, hts⟩, hK, hro⟩ := C
  obtain ⟨⟨k1, k2, k3, k4, k5, k7⟩, k6, k8⟩ := K
  have hG : GoodIn GW (va_wsU own index C0 owner x y (wy y bytes maxL ret)) := by
    intro w hw
    rcases List.mem_append.mp hw with hw | hw
    · simp only [List.mem_cons, List.not_mem_nil, or_false] at hw
      rcases hw with rfl | rfl | rfl | rfl | rfl
      · exact ⟨k1, gw_good k1⟩
      · exact ⟨k2, gw_good k2⟩
      · exact ⟨k3, gw_good k3⟩
      · exact ⟨k4, gw_good k4⟩
      · exact ⟨k5, gw_good k5⟩
    · exact gw_wy k7 w hw
  have hW0 := hW
  obtain ⟨⟨ws, h1, hP, hD⟩, hS, hA, hZ, hi⟩ := hW0
  obtain ⟨q0, hq⟩ := h1.get ha
  rw [he] at hq
  have cw : va_CU R s args own C0 owner index x y bytes maxL ret (wy y bytes maxL ret) rm rm.cells rm.slots n := by
    rcases k6 with k6 | k6
    · exact va_cwU n hts hG rfl rfl rfl k6 k8 hR
    · exact va_cwA n hts hG rfl rfl rfl (by rw [k6]; exact hro.2.2.2) k8 hR
  subst hst
  refine r_run (va_runU C'.1 (hM aa H.size) cw ⟨Ctp.blind, va_recv hK hP hc hq, fun U hU hWm => ⟨rfl, by rw [hU], by rw [hU]; exact hW.1, va_K.moved hWm.alike hK, hW.2.2.2.2, hro.kept hW.2.1 hW.sub hU hWm⟩⟩ rfl hn hl.1 rfl (lv_room hw) hdg hf) ?_
  intro v st₀ t H1 L e0 e1 hL hq2
  obtain ⟨z1, ⟨aa', z2, z4, z5⟩, z3⟩ := hq2
  cases z1
  subst e1
  subst e0
  exact kk aa' _ _ (hW.afterA z2 z4 z5 z3.1 z3.2 hL)
end CALLSA
