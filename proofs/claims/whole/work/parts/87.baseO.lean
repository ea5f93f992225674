-- calls that make objects that stay
def AGR (sh : Sh) (oa oa' : Ky → Nat) : Prop := ∀ k : Ky, (faB (fun _ => 0) (fun _ => 0) sh k).isSome = true → oa' k = oa k
theorem faB_some (oa oa2 : Ky → Nat) (aa aa2 : Nat → Nat) (sh : Sh) (k : Ky) : (faB oa aa sh k).isSome = (faB oa2 aa2 sh k).isSome := by
  obtain ⟨a, b⟩ := k
  match a with
  | 0 => show (if b = 0 then _ else _ : Option Nat).isSome = (if b = 0 then _ else _ : Option Nat).isSome; split <;> rfl
  | 1 => show (if b = 0 then _ else _ : Option Nat).isSome = (if b = 0 then _ else _ : Option Nat).isSome; split <;> rfl
  | 2 => show (if b = 0 then _ else _ : Option Nat).isSome = (if b = 0 then _ else _ : Option Nat).isSome; split <;> rfl
  | 3 => show (if b = 0 then _ else _ : Option Nat).isSome = (if b = 0 then _ else _ : Option Nat).isSome; split <;> rfl
  | 4 => show (if b = 0 then _ else _ : Option Nat).isSome = (if b = 0 then _ else _ : Option Nat).isSome; split <;> rfl
  | 5 => show (if b = 0 then _ else _ : Option Nat).isSome = (if b = 0 then _ else _ : Option Nat).isSome; split <;> rfl
  | 6 => show (if b < 2 then _ else _ : Option Nat).isSome = (if b < 2 then _ else _ : Option Nat).isSome; split <;> rfl
  | 7 => show (if b < 2 then _ else _ : Option Nat).isSome = (if b < 2 then _ else _ : Option Nat).isSome; split <;> rfl
  | 8 => show (if b < 2 then _ else _ : Option Nat).isSome = (if b < 2 then _ else _ : Option Nat).isSome; split <;> rfl
  | 9 => show (if b < 2 then _ else _ : Option Nat).isSome = (if b < 2 then _ else _ : Option Nat).isSome; split <;> rfl
  | 10 => show (if b = 0 then _ else _ : Option Nat).isSome = (if b = 0 then _ else _ : Option Nat).isSome; split <;> rfl
  | 11 => show (if cex sh b = true then _ else _ : Option Nat).isSome = (if cex sh b = true then _ else _ : Option Nat).isSome; split <;> rfl
  | 12 => show (if cex sh b = true then _ else _ : Option Nat).isSome = (if cex sh b = true then _ else _ : Option Nat).isSome; split <;> rfl
  | 13 => show (if sh 2 b = 1 then _ else _ : Option Nat).isSome = (if sh 2 b = 1 then _ else _ : Option Nat).isSome; split <;> rfl
  | 14 => show (if b < sh 4 2 then _ else _ : Option Nat).isSome = (if b < sh 4 2 then _ else _ : Option Nat).isSome; split <;> rfl
  | 15 => show (if b < sh 4 2 then _ else _ : Option Nat).isSome = (if b < sh 4 2 then _ else _ : Option Nat).isSome; split <;> rfl
  | n + 16 => rfl
theorem AGR.rf {sh : Sh} {oa : Ky → Nat} : AGR sh oa oa := fun _ _ => rfl
theorem AGR.at {sh : Sh} {oa oa' : Ky → Nat} (h : AGR sh oa oa') {aa : Nat → Nat} {k : Ky} {a : Nat} (hk : faB oa aa sh k = some a) : oa' k = oa k := h k (by rw [faB_some _ oa _ aa, hk]; rfl)
theorem AGR.bv {sh : Sh} {oa oa' : Ky → Nat} (h : AGR sh oa oa') : oa' (0, 0) = oa (0, 0) := h (0, 0) rfl
theorem AGR.st {sh : Sh} {oa oa' : Ky → Nat} (h : AGR sh oa oa') {j : Nat} (hj : sh 2 j = 1) : oa' (13, j) = oa (13, j) := h (13, j) (by show (if sh 2 j = 1 then some 0 else none : Option Nat).isSome = true; rw [if_pos hj]; rfl)
theorem AGR.tr {sh sh' : Sh} {oa oa' oa2 : Ky → Nat} (h : AGR sh oa oa') (h2 : AGR sh' oa' oa2) (hs : ∀ k : Ky, (faB (fun _ => 0) (fun _ => 0) sh k).isSome = true → (faB (fun _ => 0) (fun _ => 0) sh' k).isSome = true) : AGR sh oa oa2 := fun k hk => (h2 k (hs k hk)).trans (h k hk)
def Cto (D : va_G) (tc : Nat → ClassId) (oa : Ky → Nat) (rv : (Ky → Nat) → Option Value) (sh sh' : Sh) (ln' : Nat → Nat) (μ' : Mm) (A : Nat → Prop) : Array Value → State → Outcome → State → Prop := fun _ st oc t =>
  ∃ oa', AGR sh oa oa' ∧ oc = .returned (rv oa') ∧ (∃ aa, wd D (faB oa' aa sh') (feB tc oa' aa sh' ln') μ' t.heap ∧ (∀ k a, faB oa' aa sh' k = some a → A a) ∧ inj (faB oa' aa sh')) ∧ va_F A st t
def CtO (l : Launch) (D : va_G) (tc : Nat → ClassId) (ro : Ro) (oa : Ky → Nat) (y : MethodName) (cc : ByteArray) (maxL : Nat) (ret : Option FieldType) (rm : Room) (av : List Value) (sh : Sh) (ln : Nat → Nat) (μ : Mm) (rv : (Ky → Nat) → Option Value) (sh' : Sh) (ln' : Nat → Nat) (μ' : Mm) : Prop :=
  ∀ (aa : Nat → Nat) (sz : Nat), Met l y (wy y cc maxL ret) rm (va_Pc av (Ctp D tc ro (faB oa aa sh) (feB tc oa aa sh ln) μ sz)) (Cto D tc oa rv sh sh' ln' μ' (AF (faB oa aa sh) sz)) rm.cells rm.slots (AF (faB oa aa sh) sz)
theorem Met.mono {l : Launch} {y : MethodName} {ws : List Cond} {rm : Room} {Pc : Array Value → State → Prop} {Qc Qc' : Array Value → State → Outcome → State → Prop} {mc ms : Nat} {free : Addr → Prop} (h : Met l y ws rm Pc Qc mc ms free) (hq : ∀ a s o t, Qc a s o t → Qc' a s o t) : Met l y ws rm Pc Qc' mc ms free := by
  intro p e h1 h2 h3 s m args below h4 h5 h6 h7
  obtain ⟨n, o, g1, g2, g3, g4⟩ := h p e h1 h2 h3 s m args below h4 h5 h6 h7
  exact ⟨n, o, g1, g2, g3, hq _ _ _ _ g4.1, g4.2⟩
theorem CtA.toO {l : Launch} {D : va_G} {tc : Nat → ClassId} {ro : Ro} {oa : Ky → Nat} {y : MethodName} {cc : ByteArray} {maxL : Nat} {ret : Option FieldType} {rm : Room} {av : List Value} {sh : Sh} {ln : Nat → Nat} {μ : Mm} {rv : Option Value} {ln' : Nat → Nat} {μ' : Mm}
    (h : CtA l D tc ro oa y cc maxL ret rm av sh ln μ rv ln' μ') : CtO l D tc ro oa y cc maxL ret rm av sh ln μ (fun _ => rv) sh ln' μ' :=
  fun aa sz => (h aa sz).mono (fun _ _ _ _ hq => ⟨oa, AGR.rf, hq.1, hq.2.1, hq.2.2⟩)
theorem Ct.toO {l : Launch} {D : va_G} {tc : Nat → ClassId} {ro : Ro} {oa : Ky → Nat} {y : MethodName} {cc : ByteArray} {maxL : Nat} {ret : Option FieldType} {f n : Nat} {av : List Value} {sh : Sh} {ln : Nat → Nat} {μ : Mm} {rv : Option Value} {μ' : Mm}
    (h : ∀ aa : Nat → Nat, Ct l D tc ro (faB oa aa sh) (feB tc oa aa sh ln) y cc maxL ret (rmq f n) av μ rv μ') : CtO l D tc ro oa y cc maxL ret (rmq f n) av sh ln μ (fun _ => rv) sh ln μ' := by
  intro aa sz
  intro p e h1 h2 h3 s m args below h4 h5 h6 h7
  have hi : inj (faB oa aa sh) := h6.2.2.2.2.1
  obtain ⟨k, o, g1, g2, g3, g4⟩ := h aa sz p e h1 h2 h3 s m args below h4 h5 h6 h7
  exact ⟨k, o, g1, g2, g3, ⟨oa, AGR.rf, g4.1.1, ⟨aa, g4.1.2.1, fun k a h => Or.inl ⟨k, h⟩, hi⟩, g4.1.2.2⟩, g4.2⟩
theorem CtO.of {l : Launch} {D : va_G} {tc : Nat → ClassId} {ro : Ro} {oa : Ky → Nat} {y : MethodName} {cc : ByteArray} {maxL : Nat} {ret : Option FieldType} {rm : Room} {av : List Value} {sh : Sh} {ln : Nat → Nat} {μ : Mm} {rv : (Ky → Nat) → Option Value} {sh' : Sh} {ln' : Nat → Nat} {μ' : Mm}
    (hy : plainName y.cls = true) (hlen : (lg_sl av).length ≤ maxL)
    (body : ∀ (aa : Nat → Nat) (p : Program) (e : Env) (s : State) (m : MethodId) (args : Array Value) (below : List Frame) (meth : Method) (c : Code) (A : Nat → Prop), Cx p s m args c y.cls cc maxL D tc ro A → meth.sig.returnType = ret → meth.locks = false → Wd D (faB oa aa sh) (feB tc oa aa sh ln) A s.heap μ s.heap [] →
      ∀ ls : Array Slot, lv_has ls maxL (lv_args 0 av) → W p l e rm s m args below meth c s.heap [] 0 0 (MQ below (Cto D tc oa rv sh sh' ln' μ' A) args s rm.cells rm.slots A) (F0 m 0 ls [])) :
    CtO l D tc ro oa y cc maxL ret rm av sh ln μ rv sh' ln' μ' := by
  intro aa sz
  refine Met.ofW (cc := cc) (maxL := maxL) (ret := ret) hy rfl ?_
  intro p e s m args below meth c s₁ B hml hv
  obtain ⟨rfl, hsz, hw, hK, hi, hro⟩ := hv
  subst hsz
  have hts := atoms_spec (ws := wy y cc maxL ret) B.pre
  have hl := lv_entry av (n := maxL) hlen
  rw [lg_entry_eq]
  exact body aa p e s m _ below meth c _ ⟨⟨B.exec, B.bytes, hml, findClass_of_methodNamed B.named, fun w h => hts w (List.mem_cons_of_mem _ h)⟩, hK, hro⟩ B.returns B.notSynchronized ⟨hw, va_S.rf, fun k a h => Or.inl ⟨k, h⟩, fun q h => Or.inr h, hi⟩ _ hl
section ENDSO
variable {p : Program} {l : Launch} {e : Env} {R : Room} {s : State} {m : MethodId} {args : Array Value} {below : List Frame} {meth : Method} {c : Code} {H : Heap} {locs : List Loc} {cells slots : Nat}
variable {cc : ByteArray} {pc nL : Nat} {ls : Array Slot} {D : va_G} {tc : Nat → ClassId} {ro : Ro} {oa oa' : Ky → Nat} {aa : Nat → Nat} {sh sh' : Sh} {ln : Nat → Nat} {A : Nat → Prop} {μ : Mm} {own : String} {C1 S1 : Nat} {rv : (Ky → Nat) → Option Value}
theorem r_iretO (C : Cx p s m args c own cc nL D tc ro A) (hr : meth.sig.returnType = some .int) (hk : meth.locks = false) (hg : AGR sh oa oa') (hW : Wd D (faB oa' aa sh') (feB tc oa' aa sh' ln) A s.heap μ H locs) {v : Int32} (hv : rv oa' = some (.int v)) (h1 : cells ≤ C1) (h2 : slots ≤ S1) (hdg : decode cc pc = .ok (.ireturn, 1)) :
    W p l e R s m args below meth c H locs cells slots (MQ below (Cto D tc oa rv sh sh' ln μ A) args s C1 S1 A) (F0 m pc ls [.int v]) := by
  obtain ⟨⟨hx, hb, -, -, -⟩, -, -⟩ := C
  refine W.widen h1 h2 ?_
  exact W.iret hx hb hr (fun t ht _ => ⟨oa', hg, by rw [hv], ⟨aa, by rw [ht]; exact hW.1, hW.2.2.1, hW.2.2.2.2⟩, hW.2.1.F ht⟩) hW.2.1.2.2 hdg hk
theorem r_zretO (C : Cx p s m args c own cc nL D tc ro A) (hr : meth.sig.returnType = some .boolean) (hk : meth.locks = false) (hg : AGR sh oa oa') (hW : Wd D (faB oa' aa sh') (feB tc oa' aa sh' ln) A s.heap μ H locs) {v : Int32} (hn : v = 0 ∨ v = 1) (hv : rv oa' = some (.int v)) (h1 : cells ≤ C1) (h2 : slots ≤ S1) (hdg : decode cc pc = .ok (.ireturn, 1)) :
    W p l e R s m args below meth c H locs cells slots (MQ below (Cto D tc oa rv sh sh' ln μ A) args s C1 S1 A) (F0 m pc ls [.int v]) := by
  obtain ⟨⟨hx, hb, -, -, -⟩, -, -⟩ := C
  refine W.widen h1 h2 ?_
  exact W.zret hx hb hr (by rcases hn with rfl | rfl <;> rfl) (fun t ht _ => ⟨oa', hg, by rw [hv], ⟨aa, by rw [ht]; exact hW.1, hW.2.2.1, hW.2.2.2.2⟩, hW.2.1.F ht⟩) hW.2.1.2.2 hdg hk
theorem r_vretO (C : Cx p s m args c own cc nL D tc ro A) (hr : meth.sig.returnType = none) (hk : meth.locks = false) (hg : AGR sh oa oa') (hW : Wd D (faB oa' aa sh') (feB tc oa' aa sh' ln) A s.heap μ H locs) (hv : rv oa' = none) (h1 : cells ≤ C1) (h2 : slots ≤ S1) (hdg : decode cc pc = .ok (.return_, 1)) :
    W p l e R s m args below meth c H locs cells slots (MQ below (Cto D tc oa rv sh sh' ln μ A) args s C1 S1 A) (F0 m pc ls []) := by
  obtain ⟨⟨hx, hb, -, -, -⟩, -, -⟩ := C
  refine W.widen h1 h2 ?_
  exact W.vret hx hb hr (fun t ht _ => ⟨oa', hg, by rw [hv], ⟨aa, by rw [ht]; exact hW.1, hW.2.2.1, hW.2.2.2.2⟩, hW.2.1.F ht⟩) hW.2.1.2.2 hdg hk
theorem r_aretO {C0 : String} {a : Nat} (C : Cx p s m args c own cc nL D tc ro A) (hr : meth.sig.returnType = some (.object C0)) (hk : meth.locks = false) (hg : AGR sh oa oa') (hW : Wd D (faB oa' aa sh') (feB tc oa' aa sh' ln) A s.heap μ H locs) (hv : rv oa' = some (.ref a)) (h1 : cells ≤ C1) (h2 : slots ≤ S1) (hdg : decode cc pc = .ok (.areturn, 1)) :
    W p l e R s m args below meth c H locs cells slots (MQ below (Cto D tc oa rv sh sh' ln μ A) args s C1 S1 A) (F0 m pc ls [.ref a]) := by
  obtain ⟨⟨hx, hb, -, -, -⟩, -, -⟩ := C
  refine W.widen h1 h2 ?_
  exact W.aret hx hb hr (Or.inl ⟨_, rfl⟩) (Or.inr ⟨_, rfl⟩) (fun t ht _ => ⟨oa', hg, by rw [hv], ⟨aa, by rw [ht]; exact hW.1, hW.2.2.1, hW.2.2.2.2⟩, hW.2.1.F ht⟩) hW.2.1.2.2 hdg hk
end ENDSO
theorem wd.make {D : va_G} {fa : Fa} {fe : Fe} {μ : Mm} {H : Heap} {ws : va_W} (hP : va_P D cls ws H) (hD : va_D (fun _ => True) ws) (hm : ∀ k a, fa k = some a → (a, fe k (μ k)) ∈ ws) : wd D fa fe μ H := by
  let p : Nat × va_E → Prop := fun q => ∃ k, fa k = some q.1 ∧ q.2 = fe k (μ k)
  have hp : ∀ q, Decidable (p q) := fun q => Classical.propDecidable _
  refine ⟨ws.filter (fun q => @decide (p q) (hp q)), fun q => ?_, fun k q hk => ?_, ?_⟩
  · rw [List.mem_filter]
    constructor
    · rintro ⟨-, hq⟩
      have hq := @of_decide_eq_true _ (hp q) hq
      obtain ⟨k, h3, h4⟩ := hq
      exact ⟨k, q.1, h3, by rw [← h4]⟩
    · rintro ⟨k, a, h3, rfl⟩
      exact ⟨hm k a h3, @decide_eq_true _ (hp _) ⟨k, h3, rfl⟩⟩
  · have hmem := List.mem_of_getElem? hk
    rw [List.mem_filter] at hmem
    obtain ⟨i, hi⟩ := List.mem_iff_getElem?.mp hmem.1
    exact hP i q hi
  · exact va_D.of_nodup (hD.nodup.sublist List.filter_sublist) (fun _ _ => trivial)
/-- cells beside a world: a world with more keys -/
theorem wd.grow {D : va_G} {fa fa2 : Fa} {fe fe2 : Fe} {μ μ2 : Mm} {H : Heap} {w2 : va_W} {NK : List Ky} (h : wd D fa fe μ H) (hi : inj fa) (hP : va_P D cls w2 H) (hD : va_D (fun _ => True) w2) (hx : ∀ k a, fa k = some a → ∀ q ∈ w2, q.1 ≠ a)
    (hm : ∀ k a, fa2 k = some a → (fa k = some a ∧ fe k (μ k) = fe2 k (μ2 k)) ∨ ∃ i : Nat, NK[i]? = some k ∧ w2[i]? = some (a, fe2 k (μ2 k))) : wd D fa2 fe2 μ2 H ∧ inj fa2 ∧ ∀ k a, fa2 k = some a → fa k = some a ∨ ∃ e : va_E, (a, e) ∈ w2 := by
  obtain ⟨ws, h1, h2, h3⟩ := h
  refine ⟨wd.make (h2.app hP) (h3.app hD (fun i j p q hp hq e => ?_)) (fun k a ha => ?_), fun k k' a hk hk' => ?_, fun k a ha => (hm k a ha).elim (fun h => Or.inl h.1) (fun ⟨i, _, h⟩ => Or.inr ⟨_, List.mem_of_getElem? h⟩)⟩
  · obtain ⟨k, a, e1, e2⟩ := (h1 p).mp (List.mem_of_getElem? hp)
    exact hx k a e1 q (List.mem_of_getElem? hq) (by rw [← e, e2])
  · rcases hm k a ha with ⟨e1, e2⟩ | ⟨i, -, e2⟩
    · exact List.mem_append_left _ ((h1 _).mpr ⟨k, a, e1, by rw [e2]⟩)
    · exact List.mem_append_right _ (List.mem_of_getElem? e2)
  · rcases hm k a hk with ⟨e1, -⟩ | ⟨i, e1, e2⟩
    · rcases hm k' a hk' with ⟨f1, -⟩ | ⟨j, f1, f2⟩
      · exact hi k k' a e1 f1
      · exact absurd rfl (hx k a e1 _ (List.mem_of_getElem? f2))
    · rcases hm k' a hk' with ⟨f1, -⟩ | ⟨j, f1, f2⟩
      · exact absurd rfl (hx k' a f1 _ (List.mem_of_getElem? e2))
      · have := hD.1 i j _ _ e2 f2 rfl
        subst this
        exact Option.some.inj (e1.symm.trans f1)
section CALLSO
variable {p : Program} {l : Launch} {e : Env} {R : Room} {s : State} {m : MethodId} {args : Array Value} {below : List Frame} {meth : Method} {c : Code} {H : Heap} {locs : List Loc} {cells slots : Nat} {Q : State → Prop}
variable {ccx : ByteArray} {pc nL : Nat} {ls : Array Slot} {rest st : List Value} {D : va_G} {tc : Nat → ClassId} {ro : Ro} {oa : Ky → Nat} {aa : Nat → Nat} {sh sh' : Sh} {ln ln' : Nat → Nat} {A : Nat → Prop} {μ μ' : Mm} {own : String} {k : Ky} {b : Nat}
variable {C0 : String} {index n maxL : Nat} {y : MethodName} {bytes : ByteArray} {ret : Option FieldType} {rm : Room} {As : List Value} {rv : (Ky → Nat) → Option Value} {lv : List (Nat × Value)}
theorem r_callO (C : Cx p s m args c own ccx nL D tc ro A) (hW : Wd D (faB oa aa sh) (feB tc oa aa sh ln) A s.heap μ H locs) (hl : lv_has ls nL lv) (K : LkV own index C0 y bytes maxL ret n) (hM : CtO l D tc ro oa y bytes maxL ret rm (.ref b :: As) sh ln μ rv sh' ln' μ')
    (hR : rm.frames + 1 ≤ R.frames ∧ 8 + (maxL + 11) + rm.locals ≤ R.locals) {T : u_T} {N ci : Nat} (hc : cls[ci]? = some (C0, T, N)) (ha : faB oa aa sh k = some b) {fs : List Value} (he : feB tc oa aa sh ln k (μ k) = .inr (ci, fs))
    (hn : As.length = n) (hst : st = As.reverse ++ .ref b :: rest) (hw : (rest.map fun v => v.category).sum ≤ 8) (hdg : decode ccx pc = .ok (.invokevirtual index, 3)) (hf : cells + rm.cells ≤ R.cells ∧ slots + rm.slots ≤ R.slots)
    (kk : ∀ (oa' : Ky → Nat) (aa' : Nat → Nat) (H1 : Heap) (locs1 : List Loc), AGR sh oa oa' → Wd D (faB oa' aa' sh') (feB tc oa' aa' sh' ln') A s.heap μ' H1 locs1 → W p l e R s m args below meth c H1 locs1 (cells + rm.cells) (slots + rm.slots) Q (F0 m (pc + 3) ls ((rv oa').toList ++ rest))) : W p l e R s m args below meth c H locs cells slots Q (F0 m pc ls st) := by
  have C' := C
  obtain ⟨⟨hx, hb, hml, hown, hts⟩, hK, hro⟩ := C
  obtain ⟨⟨k1, k2, k3, k4, k5⟩, k6⟩ := K
  have hG : GoodIn GW (wsV own index C0 y (wy y bytes maxL ret)) := by
    intro w hw
    rcases List.mem_append.mp hw with hw | hw
    · simp only [List.mem_cons, List.not_mem_nil, or_false] at hw
      rcases hw with rfl | rfl | rfl | rfl
      · exact ⟨k1, gw_good k1⟩
      · exact ⟨k2, gw_good k2⟩
      · exact ⟨k3, gw_good k3⟩
      · exact ⟨k4, gw_good k4⟩
    · exact gw_wy k5 w hw
  have hW0 := hW
  obtain ⟨⟨ws, h1, hP, hD⟩, hS, hA, hZ, hi⟩ := hW0
  obtain ⟨q0, hq⟩ := h1.get ha
  rw [he] at hq
  subst hst
  refine r_run (va_runV C'.1 (hM aa H.size) (cwV n hts hG rfl rfl rfl k6 hR) ⟨Ctp.blind, va_recv hK hP hc hq, fun U hU hWm => ⟨rfl, by rw [hU], by rw [hU]; exact hW.1, va_K.moved hWm.alike hK, hW.2.2.2.2, hro.kept hW.2.1 hW.sub hU hWm⟩⟩ rfl hn hl.1 rfl (lv_room hw) hdg hf) ?_
  intro v st₀ t H1 L e0 e1 hL hq2
  obtain ⟨oa', hg, z1, ⟨aa', z2, z4, z5⟩, z3⟩ := hq2
  cases z1
  subst e1
  subst e0
  exact kk oa' aa' _ _ hg (hW.afterA z2 z4 z5 z3.1 z3.2 hL)
/-- a constructor of one fresh object, called in a world -/
theorem r_initW {fa : Fa} {fe : Fe} {kN : Ky} {e0 : va_E} {F : (Nat → Nat) → va_W} (C : Cx p s m args c own ccx nL D tc ro A) (hW : Wd D fa fe A s.heap μ H locs) (hl : lv_has ls nL lv) (K : LkI own index y bytes maxL n) (hM : CtL l D tc ro y bytes maxL rm (.ref b :: As) [(b, e0)] F) (ha : fa kN = some b) (he : fe kN (μ kN) = e0)
    (hR : rm.frames + 1 ≤ R.frames ∧ 8 + (maxL + 11) + rm.locals ≤ R.locals) (hn : As.length = n) (hst : st = As.reverse ++ .ref b :: rest) (hw : (rest.map fun v => v.category).sum ≤ 8) (hdg : decode ccx pc = .ok (.invokespecial index, 3)) (hf : cells + rm.cells ≤ R.cells ∧ slots + rm.slots ≤ R.slots)
    (kk : ∀ (u : Nat → Nat) (H1 : Heap) (locs1 : List Loc), va_P D cls (F u) H1 → va_D (va_A [(b, e0)] H.size) (F u) → va_S A s.heap H1 locs1 → H.size ≤ H1.size → (∀ q : Nat, q < H.size → q ≠ b → H1[q]? = H[q]?) → W p l e R s m args below meth c H1 locs1 (cells + rm.cells) (slots + rm.slots) Q (F0 m (pc + 3) ls rest)) : W p l e R s m args below meth c H locs cells slots Q (F0 m pc ls st) := by
  have C' := C
  obtain ⟨⟨hx, hb, hml, hown, hts⟩, hK, hro⟩ := C
  obtain ⟨⟨k1, k2, k3, k4⟩, k5, k6, k7, k8⟩ := K
  obtain ⟨⟨ws, h1, hP, hD⟩, hS, hA, hZ, hi⟩ := hW
  obtain ⟨q0, hq⟩ := h1.get ha
  rw [he] at hq
  have hPc : va_P D cls [(b, e0)] H := hP.sub [q0] (by simp [hq])
  have hDc : va_D (fun _ => True) [(b, e0)] := va_D.of_nodup (List.pairwise_singleton _ _) (fun _ _ => trivial)
  have hfr : ∀ q, va_A [(b, e0)] H.size q → A q := by
    rintro q (⟨i, e', hi'⟩ | h)
    · have := List.mem_of_getElem? hi'
      simp only [List.mem_singleton, Prod.mk.injEq] at this
      rw [this.1]
      exact hA kN b ha
    · exact hZ q (Nat.le_trans hS.1 h)
  subst hst
  refine r_run (va_runI C'.1 (hM H.size) ⟨callB_of n hts (gw_wy k4) rfl rfl rfl (hts _ k3) (hts _ k1) ⟨k6, k7, k8⟩ hR, k5, hts _ k2⟩ ⟨Ltp.blind, fun U hU hWm => ⟨rfl, by rw [hU], by rw [hU]; exact hPc, va_K.moved hWm.alike hK, hDc, hro.kept hS hfr hU hWm⟩⟩ rfl hn hl.1 rfl (lv_room hw) hdg hf) ?_
  intro v st₀ t H1 L e0' e1 hL hq2
  obtain ⟨z1, ⟨u, z2, z4⟩, z5, z6⟩ := hq2
  cases z1
  subst e1
  subst e0'
  refine kk u _ _ z2 z4 ⟨Nat.le_trans hS.1 z5, fun q h2 h3 => by rw [z6 q (Nat.lt_of_lt_of_le h2 hS.1) (fun z => h3 (hfr q z))]; exact hS.2.1 q h2 h3, fun q hq => by
    rcases List.mem_append.mp hq with h | h
    · exact hS.2.2 q h
    · exact hfr _ (hL q h)⟩ z5 (fun q h2 h3 => z6 q h2 (fun z => ?_))
  rcases z with ⟨i, e', hi'⟩ | h
  · have := List.mem_of_getElem? hi'
    simp only [List.mem_singleton, Prod.mk.injEq] at this
    exact h3 this.1
  · omega
end CALLSO
theorem wd.alt {D : va_G} {fa : Fa} {fe fe' : Fe} {μ : Mm} {H : Heap} (h : wd D fa fe μ H) (hi : inj fa) {k : Ky} {a : Nat} (ha : fa k = some a) (hv : va_at D cls (a, fe k (μ k)) H → va_at D cls (a, fe' k (μ k)) H) (hne : ∀ j, j ≠ k → (fa j).isSome = true → fe' j (μ j) = fe j (μ j)) : wd D fa fe' μ H := by
  obtain ⟨ws, h1, hP, hD⟩ := h
  obtain ⟨q0, hq⟩ := h1.get ha
  refine wd.make (ws := ws.set q0 (a, fe' k (μ k))) (hP.set hD hq (hv (hP q0 _ hq)) (fun _ _ => rfl)) (hD.set hq) (fun j b hb => ?_)
  have hl : q0 < ws.length := (List.getElem?_eq_some_iff.mp hq).1
  by_cases hjk : j = k
  · subst hjk
    cases ha.symm.trans hb
    exact List.mem_of_getElem? (List.getElem?_set_self hl)
  · rw [hne j hjk (by rw [hb]; rfl)]
    obtain ⟨i, hi2⟩ := h1.get hb
    refine List.mem_of_getElem? (i := i) ?_
    rw [List.getElem?_set_ne (fun e => ?_)]
    · exact hi2
    · subst e
      rw [hq] at hi2
      have := congrArg Prod.fst (Option.some.inj hi2)
      have this : a = b := this
      subst this
      exact hjk (hi j k a hb ha)
