def Wl (D : va_G) (A : Nat → Prop) (H0 : Heap) (ws : va_W) (H : Heap) (locs : List Loc) : Prop := va_P D cls ws H ∧ va_D A ws ∧ va_S A H0 H locs ∧ (∀ q : Nat, H0.size ≤ q → A q)
def Ltp (D : va_G) (tc : Nat → ClassId) (ro : Ro) (ws : va_W) (sz : Nat) (U : State) : Prop := U.heap.size = sz ∧ va_P D cls ws U.heap ∧ va_K D cls (tys tc) U ∧ va_D (fun _ => True) ws ∧ rok ro (va_A ws sz) U
def Ltq (D : va_G) (F : (Nat → Nat) → va_W) (A : Nat → Prop) : Array Value → State → Outcome → State → Prop := fun _ st oc t => oc = .returned none ∧ (∃ u, va_P D cls (F u) t.heap ∧ va_D A (F u)) ∧ va_F A st t
def CtL (l : Launch) (D : va_G) (tc : Nat → ClassId) (ro : Ro) (y : MethodName) (cc : ByteArray) (maxL : Nat) (rm : Room) (av : List Value) (ws : va_W) (F : (Nat → Nat) → va_W) : Prop :=
  ∀ sz, Met l y (wy y cc maxL none) rm (va_Pc av (Ltp D tc ro ws sz)) (Ltq D F (va_A ws sz)) rm.cells rm.slots (va_A ws sz)
theorem CtL.of {l : Launch} {D : va_G} {tc : Nat → ClassId} {ro : Ro} {y : MethodName} {cc : ByteArray} {maxL : Nat} {rm : Room} {av : List Value} {ws : va_W} {F : (Nat → Nat) → va_W}
    (hy : plainName y.cls = true) (hlen : (lg_sl av).length ≤ maxL)
    (body : ∀ (p : Program) (e : Env) (s : State) (m : MethodId) (args : Array Value) (below : List Frame) (meth : Method) (c : Code) (A : Nat → Prop), Cx p s m args c y.cls cc maxL D tc ro A → meth.sig.returnType = none → meth.locks = false → meth.name = y.name → Wl D A s.heap ws s.heap [] →
      ∀ ls : Array Slot, lv_has ls maxL (lv_args 0 av) → W p l e rm s m args below meth c s.heap [] 0 0 (MQ below (Ltq D F A) args s rm.cells rm.slots A) (F0 m 0 ls [])) :
    CtL l D tc ro y cc maxL rm av ws F := by
  intro sz
  refine Met.ofW (cc := cc) (maxL := maxL) (ret := none) hy rfl ?_
  intro p e s m args below meth c s₁ B hml hv
  obtain ⟨rfl, hsz, hP, hK, hD0, hro⟩ := hv
  subst hsz
  have hts := atoms_spec (ws := wy y cc maxL none) B.pre
  have hl := lv_entry av (n := maxL) hlen
  rw [lg_entry_eq]
  exact body p e s m _ below meth c _ ⟨⟨B.exec, B.bytes, hml, findClass_of_methodNamed B.named, fun w h => hts w (List.mem_cons_of_mem _ h)⟩, hK, hro⟩ B.returns B.notSynchronized (name_of_methodNamed B.named B.method).1 ⟨hP, hD0.self, va_S.rf, fun q h => Or.inr h⟩ _ hl
theorem Ltp.blind {D : va_G} {tc : Nat → ClassId} {ro : Ro} {ws : va_W} {sz : Nat} {av : List Value} : FrameBlind (va_Pc av (Ltp D tc ro ws sz)) := by
  intro a U g mk q
  obtain ⟨q0, q1, q2, q3, q4, q5⟩ := q
  exact ⟨q0, q1, q2, va_K.moved (u := U) (U := U.calling g mk a) (Vm.Alike.refl U.vm) q3, q4, ⟨q5.1.moved (Vm.Alike.refl U.vm), fun z hz => vk_R.same (u := U) rfl (q5.2.1 z hz), q5.2.2.1, va_tabs (u := U) rfl rfl q5.2.2.2⟩⟩
section ROWSL
variable {p : Program} {l : Launch} {e : Env} {R : Room} {s : State} {m : MethodId} {args : Array Value} {below : List Frame} {meth : Method} {c : Code} {H : Heap} {locs : List Loc} {cells slots : Nat} {Q : State → Prop}
variable {ccx : ByteArray} {pc nL : Nat} {ls : Array Slot} {rest st : List Value} {D : va_G} {tc : Nat → ClassId} {ro : Ro} {A : Nat → Prop} {ws wr wc : va_W} {own : String} {a : Nat}
theorem l_vret {F : (Nat → Nat) → va_W} {C1 S1 : Nat} (C : Cx p s m args c own ccx nL D tc ro A) (hr : meth.sig.returnType = none) (hk : meth.locks = false) (hW : Wl D A s.heap ws H locs) (u : Nat → Nat) (hu : ws = F u) (h1 : cells ≤ C1) (h2 : slots ≤ S1) (hdg : decode ccx pc = .ok (.return_, 1)) :
    W p l e R s m args below meth c H locs cells slots (MQ below (Ltq D F A) args s C1 S1 A) (F0 m pc ls []) := by
  obtain ⟨⟨hx, hb, -, -, -⟩, -, -⟩ := C
  obtain ⟨hP, hD, hS, -⟩ := hW
  refine W.widen h1 h2 ?_
  subst hu
  exact W.vret hx hb hr (fun t ht _ => ⟨rfl, ⟨u, by rw [ht]; exact hP, hD⟩, hS.F ht⟩) hS.2.2 hdg hk
theorem l_obj (C : Cx p s m args c own ccx nL D tc ro A) {lv : List (Nat × Value)} (hl : lv_has ls nL lv) {idx : Nat} (w1 : Cond.methodLink own idx objectInit ∈ GW) (w2 : Cond.instanceMethod objectInit ∈ GW) (w3 : Cond.code objectInit ⟨#[0xb1]⟩ 1 none ∈ GW) (hdg : decode ccx pc = .ok (.invokespecial idx, 3)) (hf : 1 ≤ R.frames) (hlo : 2 * 0 + (rest.map fun v => v.category).sum + 12 ≤ R.locals)
    (kk : W p l e R s m args below meth c H locs cells slots Q (F0 m (pc + 3) ls rest)) : W p l e R s m args below meth c H locs cells slots Q (F0 m pc ls (.ref a :: rest)) := by
  obtain ⟨⟨hx, hb, hml, hown, hts⟩, -, -⟩ := C
  exact W.objInit hx hb hown (hts _ w1) (hts _ w2) (hts _ w3) rfl (by rw [hml]; exact hl.1) rfl hdg hf hlo kk
theorem l_new (C : Cx p s m args c own ccx nL D tc ro A) (hW : Wl D A s.heap ws H locs) {C0 : String} {T : u_T} {N ci index : Nat} (hc : cls[ci]? = some (C0, T, N)) (hin : ∀ w ∈ u_ws C0 T N, w ∈ GW) {ty0 : Nat → FieldType} (hty : ∀ k, k < N → parseFieldDescriptor (T k).2.2.1 = some (ty0 k))
    (w1 : Cond.classLink own index C0 ∈ GW) (w2 : Cond.instantiable C0 N ∈ GW) (w3 : Cond.initialized C0 ∈ GW) (fs : List Value) (hg : ∀ j, j < N → defaultValue (ty0 j) = vp_V fs j) (hcc : cells + 1 ≤ R.cells ∧ slots + N ≤ R.slots) (hdg : decode ccx pc = .ok (.new index, 3))
    (kk : ∀ (q : Nat) (H1 : Heap), Wl D A s.heap (ws ++ [(q, .inr (ci, fs))]) H1 locs → W p l e R s m args below meth c H1 locs (cells + 1) (slots + N) Q (F0 m (pc + 3) ls (.ref q :: rest))) : W p l e R s m args below meth c H locs cells slots Q (F0 m pc ls rest) := by
  obtain ⟨⟨hx, hbb, hml, hown, hts⟩, hK, hro⟩ := C
  obtain ⟨hP, hD, hS, hZ⟩ := hW
  exact va_new (ws := ws) (fs := fs) hx hbb hts hin ty0 hty hown (hts _ w1) (hts _ w2) (hts _ w3) hK hP hD hS hZ hc hg hcc.1 hcc.2 hdg (fun q H1 hP1 hD1 hS1 => kk q H1 ⟨hP1, hD1, hS1, hZ⟩)
theorem l_newi (C : Cx p s m args c own ccx nL D tc ro A) (hW : Wl D A s.heap ws H locs) (hcl : Cond.arrayClass .int ∈ GW) {n : Int32} {N : Nat} (hn : ¬ n < 0) (hN : n.toNatClampNeg = N) (hb : N ≤ 134217728) (hcc : cells + 1 ≤ R.cells ∧ slots + N ≤ R.slots) (hdg : decode ccx pc = .ok (.newarray .int, 2))
    (kk : ∀ (q : Nat) (H1 : Heap), Wl D A s.heap (ws ++ [(q, .inl (tc 0, N, .inl (fun _ => 0)))]) H1 locs → W p l e R s m args below meth c H1 locs (cells + 1) (slots + N) Q (F0 m (pc + 2) ls (.ref q :: rest))) : W p l e R s m args below meth c H locs cells slots Q (F0 m pc ls (.int n :: rest)) := by
  obtain ⟨⟨hx, hbb, hml, hown, hts⟩, hK, hro⟩ := C
  obtain ⟨hP, hD, hS, hZ⟩ := hW
  refine va_newa (ws := ws) (atype := .int) (a0 := (N, .inl (fun _ => 0))) hx hbb (hts _ hcl) rfl hK hP hD hS hZ (fun _ => rfl) hn hN (by show N * 4 ≤ 536870912; omega) hcc.1 hcc.2 hdg (fun q cA H1 hK1 hP1 hD1 hS1 => kk q H1 ?_)
  have e1 := (hK1.2 0 (tc 0, .int) rfl).2
  have e2 := (hK1.2 5 (cA, .int) rfl).2
  have e3 : cA = tc 0 := Option.some.inj (e2.symm.trans e1)
  subst e3
  exact ⟨hP1, hD1, hS1, hZ⟩
theorem l_get (C : Cx p s m args c own ccx nL D tc ro A) (hW : Wl D A s.heap ws H locs) {R0 ref : String} {T : u_T} {N ci f index : Nat} (q0 : Nat) {fs : List Value} (he : ws[q0]? = some (a, .inr (ci, fs))) (hc : cls[ci]? = some (R0, T, N)) (hf : f < N) (hin : ∀ w ∈ u_ws R0 T N, w ∈ GW)
    (hl : Cond.fieldLink own index ref (T f).2.1 (T f).2.2.1 ∈ GW) (hs : ref = (T f).1 ∨ Cond.sameField ref (T f).1 (T f).2.1 (T f).2.2.1 ∈ GW) {v : Value} (hv : fs[f]? = some v) (hdg : decode ccx pc = .ok (.getfield index, 3))
    (kk : W p l e R s m args below meth c H locs cells slots Q (F0 m (pc + 3) ls (v :: rest))) : W p l e R s m args below meth c H locs cells slots Q (F0 m pc ls (.ref a :: rest)) := by
  obtain ⟨⟨hx, hb, hml, hown, hts⟩, hK, hro⟩ := C
  obtain ⟨hP, hD, hS, hZ⟩ := hW
  exact va_get (ws := ws) hx hb hts hin hown hK hP q0 he hc f hf (hts _ hl) (fun x h => by
    rcases hs with rfl | hs
    · exact h
    · exact u_same (hts _ hs) x h) hv hdg kk
theorem l_put (C : Cx p s m args c own ccx nL D tc ro A) (hinit : meth.name = "<init>") (hW : Wl D A s.heap ws H locs) {R0 ref : String} {T : u_T} {N ci f index : Nat} (q0 : Nat) {fs : List Value} (he : ws[q0]? = some (a, .inr (ci, fs))) (hc : cls[ci]? = some (R0, T, N)) (hf : f < N) (hin : ∀ w ∈ u_ws R0 T N, w ∈ GW)
    {ty0 : Nat → FieldType} (hty : ∀ k, k < N → parseFieldDescriptor (T k).2.2.1 = some (ty0 k)) (hnm : ∀ a, a < N → ∀ b, b < N → a ≠ b → (T a).2.1 ≠ (T b).2.1)
    (hl : Cond.fieldLink own index ref (T f).2.1 (T f).2.2.1 ∈ GW) (hs : ref = (T f).1 ∨ Cond.sameField ref (T f).1 (T f).2.1 (T f).2.2.1 ∈ GW) (hfin : (T f).2.2.2 = false ∨ (T f).1 = own) {ty : FieldType} (hd : parseFieldDescriptor (T f).2.2.1 = some ty)
    (hlt : f < fs.length) {v : Value} (hn : narrow ty v = v) (hfit : fits ty v = true) (hdg : decode ccx pc = .ok (.putfield index, 3))
    (kk : ∀ (H1 : Heap) (locs1 : List Loc), Wl D A s.heap (ws.set q0 (a, .inr (ci, fs.set f v))) H1 locs1 → W p l e R s m args below meth c H1 locs1 cells slots Q (F0 m (pc + 3) ls rest)) : W p l e R s m args below meth c H locs cells slots Q (F0 m pc ls (v :: .ref a :: rest)) := by
  obtain ⟨⟨hx, hb, hml, hown, hts⟩, hK, hro⟩ := C
  obtain ⟨hP, hD, hS, hZ⟩ := hW
  have hsame : ∀ x, s.fieldFound? (T f).1 (T f).2.1 (T f).2.2.1 = some x → s.fieldFound? ref (T f).2.1 (T f).2.2.1 = some x := fun x h => by
    rcases hs with rfl | hs
    · exact h
    · exact u_same (hts _ hs) x h
  rcases hfin2 : (T f).2.2.2 with _ | _
  · exact va_put (ws := ws) hx hb hts hin ty0 hty hnm hown hK hP hD hS q0 he hc f hf (hts _ hl) hsame hfin2 hd hn hfit hlt hdg (fun H1 locs1 hP1 hD1 hS1 => kk H1 locs1 ⟨hP1, hD1, hS1, hZ⟩)
  · rcases hfin with h | h
    · rw [h] at hfin2; cases hfin2
    · exact va_putF (ws := ws) hx hb hts hin ty0 hty hnm hown hK hP hD hS q0 he hc f hf (hts _ hl) hsame hfin2 hinit h hd hn hfit hlt hdg (fun H1 locs1 hP1 hD1 hS1 => kk H1 locs1 ⟨hP1, hD1, hS1, hZ⟩)
def LkI (own : String) (index : Nat) (y : MethodName) (cc : ByteArray) (maxL n : Nat) : Prop :=
  (Cond.methodLink own index y ∈ GW ∧ Cond.instanceMethod y ∈ GW ∧ Cond.initialized y.cls ∈ GW ∧ Cond.code y cc maxL none ∈ GW) ∧ (y.name = "<init>" ∧ y.cls ≠ "java/lang/invoke/MethodHandle" ∧ y.cls ≠ "java/lang/invoke/VarHandle" ∧ (parseMethodDescriptor y.desc).map (fun d => d.parameters.length) = some n)
theorem l_init {b : Nat} {As : List Value} {index n maxL : Nat} {y : MethodName} {bytes : ByteArray} {rm : Room} {lv : List (Nat × Value)} {F : (Nat → Nat) → va_W} (C : Cx p s m args c own ccx nL D tc ro A) (hW : Wl D A s.heap ws H locs) (hl : lv_has ls nL lv) (K : LkI own index y bytes maxL n) (hM : CtL l D tc ro y bytes maxL rm (.ref b :: As) wc F)
    (isC isR : List Nat) (hC : isC.map (fun i => ws[i]?) = wc.map some) (hR2 : isR.map (fun i => ws[i]?) = wr.map some) (hnd : va_nd isR = true) (hndC : va_nd isC = true) (hdis : ∀ i ∈ isR, i ∉ isC)
    (hR : rm.frames + 1 ≤ R.frames ∧ 8 + (maxL + 11) + rm.locals ≤ R.locals) (hn : As.length = n) (hst : st = As.reverse ++ .ref b :: rest) (hw : (rest.map fun v => v.category).sum ≤ 8) (hdg : decode ccx pc = .ok (.invokespecial index, 3)) (hf : cells + rm.cells ≤ R.cells ∧ slots + rm.slots ≤ R.slots)
    (kk : ∀ (u : Nat → Nat) (H1 : Heap) (locs1 : List Loc), Wl D A s.heap (wr ++ F u) H1 locs1 → W p l e R s m args below meth c H1 locs1 (cells + rm.cells) (slots + rm.slots) Q (F0 m (pc + 3) ls rest)) : W p l e R s m args below meth c H locs cells slots Q (F0 m pc ls st) := by
  have C' := C
  obtain ⟨⟨hx, hb, hml, hown, hts⟩, hK, hro⟩ := C
  obtain ⟨⟨k1, k2, k3, k4⟩, k5, k6, k7, k8⟩ := K
  obtain ⟨hP, hD, hS, hZ⟩ := hW
  have hfr := va_free hD hS hZ isC hC
  have hPc : va_P D cls wc H := hP.sub isC (by
    have := congrArg (List.filterMap id) hC
    rw [List.filterMap_map, List.filterMap_map] at this
    refine Eq.trans ?_ (this.trans ?_)
    · rfl
    · show List.filterMap (fun x => some x) wc = wc
      exact List.filterMap_some)
  have hDc : va_D (fun _ => True) wc := (hD.sub isC hndC hC).weaken (fun _ _ _ _ => trivial)
  subst hst
  refine r_run (va_runI C'.1 (hM H.size) ⟨callB_of n hts (gw_wy k4) rfl rfl rfl (hts _ k3) (hts _ k1) ⟨k6, k7, k8⟩ hR, k5, hts _ k2⟩ ⟨Ltp.blind, fun U hU hWm => ⟨rfl, by rw [hU], by rw [hU]; exact hPc, va_K.moved hWm.alike hK, hDc, hro.kept hS hfr hU hWm⟩⟩ rfl hn hl.1 rfl (lv_room hw) hdg hf) ?_
  intro v st₀ t H1 L e0 e1 hL hq2
  obtain ⟨z1, ⟨u, z2, z4⟩, z5, z6⟩ := hq2
  cases z1
  subst e1
  subst e0
  obtain ⟨j1, j2⟩ := va_join hP hD isC isR hC hR2 hnd hdis z6 hfr z2 z4
  exact kk u _ _ ⟨j1, j2, ⟨Nat.le_trans hS.1 z5, fun q h2 h3 => by rw [z6 q (Nat.lt_of_lt_of_le h2 hS.1) (fun z => h3 (hfr q z))]; exact hS.2.1 q h2 h3, fun q hq => by
    rcases List.mem_append.mp hq with h | h
    · exact hS.2.2 q h
    · exact hfr _ (hL q h)⟩, hZ⟩
end ROWSL
