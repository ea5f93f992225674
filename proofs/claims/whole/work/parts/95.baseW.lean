-- the law's wrappers: a call of the class, its answer laid into a row of one long, its throws told by a number
theorem Met.ofX {l : Launch} {y : MethodName} {ws : List Cond} {rm : Room} {Pc : Array Value → State → Prop} {Qc : Array Value → State → Outcome → State → Prop} {mc ms : Nat} {free : Addr → Prop} (h : vx_Met l y ws rm Pc Qc (fun _ _ _ => False) mc ms free) : Met l y ws rm Pc Qc mc ms free := by
  intro p e h1 h2 h3 s m args below h4 h5 h6 h7
  obtain ⟨n, o, g1, g2, g3, g4⟩ := h p e h1 h2 h3 s m args below h4 h5 h6 h7
  refine ⟨n, o, g1, g2, g3, ?_⟩
  rcases g4 with g4 | ⟨q, -, E, ce, L, hf, -⟩
  · exact g4
  · exact hf.elim
def outc (tc : Nat → ClassId) (o : Nat) (f : Nat → Int64) (H : Heap) : Prop := H[o]? = some (arrV (tc 4) 1 (fun j => .long (f j)))
theorem outc.lt {tc : Nat → ClassId} {o : Nat} {f : Nat → Int64} {H : Heap} (h : outc tc o f H) : o < H.size := (Array.getElem?_eq_some_iff.mp h).1
def ApO (fa : Fa) (sz o : Nat) : Nat → Prop := fun q => AF fa sz q ∨ q = o
def NcT (U : State) : Prop := va_Nc (exn 5) (exn 3) U ∧ va_Nc (exn 2) (exn 1) U ∧ va_Nc (exn 4) (exn 1) U ∧ va_Nc (exn 3) (exn 1) U ∧ va_Nc (exn 4) (exn 3) U
theorem NcT.moved {u U : State} (hvm : u.vm.Alike U.vm) (h : NcT u) : NcT U := ⟨h.1.moved hvm, h.2.1.moved hvm, h.2.2.1.moved hvm, h.2.2.2.1.moved hvm, h.2.2.2.2.moved hvm⟩
def Wpre (D : va_G) (tc : Nat → ClassId) (ro : Ro) (fa : Fa) (fe : Fe) (μ : Mm) (sz o : Nat) (f : Nat → Int64) (U : State) : Prop :=
  (U.heap.size = sz ∧ wd D fa fe μ U.heap ∧ va_K D cls (tys tc) U ∧ inj fa ∧ rok ro (ApO fa sz o) U) ∧ (outc tc o f U.heap ∧ ∀ k, fa k ≠ some o) ∧ ZqU (ApO fa sz o) U U.heap ∧ ZqN (ApO fa sz o) U U.heap ∧ NcT U
def Wpost (D : va_G) (tc : Nat → ClassId) (oa : Ky → Nat) (sh : Sh) (fa : Fa) (sz o : Nat) (sh' : Sh) (ln' : Nat → Nat) (μ' : Mm) (cd : Int32) (lv : Option Int64) : Array Value → State → Outcome → State → Prop := fun _ st oc t =>
  oc = .returned (some (.int cd)) ∧ (∃ oa', AGR sh oa oa' ∧ ∃ aa, wd D (faB oa' aa sh') (feB tc oa' aa sh' ln') μ' t.heap ∧ (∀ k a, faB oa' aa sh' k = some a → AF fa sz a) ∧ inj (faB oa' aa sh')) ∧ (∃ f, outc tc o f t.heap ∧ ∀ v, lv = some v → f 0 = v) ∧ va_F (ApO fa sz o) st t
def wyW (y : MethodName) (cc : ByteArray) (maxL : Nat) (hh : List (Nat × Nat × Nat × Nat)) : List Cond := Cond.codeWith y cc maxL (some .int) hh :: GW
def CtW (l : Launch) (D : va_G) (tc : Nat → ClassId) (ro : Ro) (oa : Ky → Nat) (y : MethodName) (cc : ByteArray) (maxL : Nat) (hh : List (Nat × Nat × Nat × Nat)) (rm : Room) (As : List Value) (sh : Sh) (ln : Nat → Nat) (μ : Mm) (cd : Int32) (lv : Option Int64) (sh' : Sh) (ln' : Nat → Nat) (μ' : Mm) : Prop :=
  ∀ (aa : Nat → Nat) (o : Nat) (f : Nat → Int64) (sz : Nat), Met l y (wyW y cc maxL hh) rm (va_Pc (.ref (oa (0, 0)) :: (As ++ [.ref o])) (Wpre D tc ro (faB oa aa sh) (feB tc oa aa sh ln) μ sz o f)) (Wpost D tc oa sh (faB oa aa sh) sz o sh' ln' μ' cd lv) rm.cells rm.slots (ApO (faB oa aa sh) sz o)
theorem Wpre.blind {D : va_G} {tc : Nat → ClassId} {ro : Ro} {fa : Fa} {fe : Fe} {μ : Mm} {sz o : Nat} {f : Nat → Int64} {av : List Value} : FrameBlind (va_Pc av (Wpre D tc ro fa fe μ sz o f)) := by
  intro a U g mk q
  obtain ⟨q0, ⟨q1, q2, q3, q4, q5⟩, q6, q7, q8, q9⟩ := q
  have hal : U.vm.Alike (U.calling g mk a).vm := Vm.Alike.refl U.vm
  refine ⟨q0, ⟨q1, q2, va_K.moved (u := U) (U := U.calling g mk a) hal q3, q4, ?_⟩, q6, vx_Zq.moved (u := U) (U := U.calling g mk a) hal q7, ⟨vx_Zq.moved (u := U) (U := U.calling g mk a) hal q8.1, NwT.same (u := U) (U := U.calling g mk a) rfl q8.2⟩, q9.moved (u := U) (U := U.calling g mk a) hal⟩
  exact ⟨q5.1.moved hal, fun z hz => vk_R.same (u := U) rfl (q5.2.1 z hz), q5.2.2.1, va_tabs (u := U) rfl rfl q5.2.2.2⟩
theorem CtW.of {l : Launch} {D : va_G} {tc : Nat → ClassId} {ro : Ro} {oa : Ky → Nat} {y : MethodName} {cc : ByteArray} {maxL : Nat} {hh : List (Nat × Nat × Nat × Nat)} {rm : Room} {As : List Value} {sh : Sh} {ln : Nat → Nat} {μ : Mm} {cd : Int32} {lv : Option Int64} {sh' : Sh} {ln' : Nat → Nat} {μ' : Mm}
    (hy : plainName y.cls = true) (hlen : ∀ o, (lg_sl (.ref (oa (0, 0)) :: (As ++ [.ref o]))).length ≤ maxL)
    (body : ∀ (aa : Nat → Nat) (o : Nat) (f : Nat → Int64) (p : Program) (e : Env) (s : State) (m : MethodId) (args : Array Value) (below : List Frame) (meth : Method) (c : Code) (A : Nat → Prop), A = ApO (faB oa aa sh) s.heap.size o → Cx p s m args c y.cls cc maxL D tc ro A → meth.sig.returnType = some .int → meth.locks = false → c.exceptionTable.toList = tableOf hh → Wd D (faB oa aa sh) (feB tc oa aa sh ln) A s.heap μ s.heap [] →
      ZqU A s s.heap → ZqN A s s.heap → NcT s → outc tc o f s.heap → (∀ k, faB oa aa sh k ≠ some o) → A o → ∀ ls : Array Slot, lv_has ls maxL (lv_args 0 (.ref (oa (0, 0)) :: (As ++ [.ref o]))) → W p l e rm s m args below meth c s.heap [] 0 0 (vx_MQ below (Wpost D tc oa sh (faB oa aa sh) s.heap.size o sh' ln' μ' cd lv) (fun _ _ _ => False) args s rm.cells rm.slots A) (F0 m 0 ls [])) :
    CtW l D tc ro oa y cc maxL hh rm As sh ln μ cd lv sh' ln' μ' := by
  intro aa o f sz
  refine Met.ofX (vx_ofWH (cc := cc) (maxL := maxL) (ret := some .int) (hh := hh) hy rfl ?_)
  intro p e s m args below meth c s₁ B hml hv
  obtain ⟨rfl, ⟨hsz, hw, hK, hi, hro⟩, ⟨ho, hno⟩, hU, hN, hnc⟩ := hv
  subst hsz
  have hts := atoms_spec (ws := wyW y cc maxL hh) B.pre
  have hl := lv_entry (.ref (oa (0, 0)) :: (As ++ [.ref o])) (n := maxL) (hlen o)
  rw [lg_entry_eq]
  exact body aa o f p e s m _ below meth c _ rfl ⟨⟨B.exec, B.bytes, hml, findClass_of_methodNamed B.named, fun w h => hts w (List.mem_cons_of_mem _ h)⟩, hK, hro⟩ B.returns B.notSynchronized (vx_table (x := y) B (hts _ List.mem_cons_self)) ⟨hw, va_S.rf, fun k a h => Or.inl (Or.inl ⟨k, h⟩), fun q h => Or.inl (Or.inr h), hi⟩ hU hN hnc ho hno (Or.inr rfl) _ hl
section ROWSW
variable {p : Program} {l : Launch} {e : Env} {R : Room} {s : State} {m : MethodId} {args : Array Value} {below : List Frame} {meth : Method} {c : Code} {H : Heap} {locs : List Loc} {cells slots : Nat} {Q : State → Prop}
variable {ccx : ByteArray} {pc nL : Nat} {ls : Array Slot} {rest st : List Value} {D : va_G} {tc : Nat → ClassId} {ro : Ro} {oa oa' : Ky → Nat} {aa : Nat → Nat} {sh sh' : Sh} {ln ln' : Nat → Nat} {A : Nat → Prop} {μ μ' : Mm} {own : String} {k : Ky} {b o : Nat} {f : Nat → Int64}
variable {C0 : String} {index n maxL : Nat} {y : MethodName} {bytes : ByteArray} {ret : Option FieldType} {rm : Room} {As : List Value} {rv : Int32 → Option Value} {lv : List (Nat × Value)} {r : Int32 ⊕ Nat} {fa : Fa} {fe : Fe}
/-- a call of the class: it answers, or it throws -/
theorem r_callG (C : Cx p s m args c own ccx nL D tc ro A) (hU : ZqU A s s.heap) (hN : ZqN A s s.heap) (hW : Wd D (faB oa aa sh) (feB tc oa aa sh ln) A s.heap μ H locs) (hl : lv_has ls nL lv) (K : LkV own index C0 y bytes maxL ret n) (hM : CtR l D tc ro oa y bytes maxL ret rm (.ref b :: As) sh ln μ rv r sh' ln' μ')
    (hR : rm.frames + 1 ≤ R.frames ∧ 8 + (maxL + 11) + rm.locals ≤ R.locals) {T : u_T} {N ci : Nat} (hc : cls[ci]? = some (C0, T, N)) (ha : faB oa aa sh k = some b) {fs : List Value} (he : feB tc oa aa sh ln k (μ k) = .inr (ci, fs))
    (hn : As.length = n) (hst : st = As.reverse ++ .ref b :: rest) (hw : (rest.map fun v => v.category).sum ≤ 8) (hdg : decode ccx pc = .ok (.invokevirtual index, 3)) (hf : cells + rm.cells ≤ R.cells ∧ slots + rm.slots ≤ R.slots)
    (kI : ∀ (x : Int32), r = .inl x → ∀ (oa' : Ky → Nat) (aa' : Nat → Nat) (H1 : Heap) (locs1 : List Loc), AGR sh oa oa' → Wd D (faB oa' aa' sh') (feB tc oa' aa' sh' ln') A s.heap μ' H1 locs1 → (∀ k a, faB oa' aa' sh' k = some a → AF (faB oa aa sh) H.size a) → H.size ≤ H1.size → (∀ q : Nat, q < H.size → ¬ AF (faB oa aa sh) H.size q → H1[q]? = H[q]?) → W p l e R s m args below meth c H1 locs1 (cells + rm.cells) (slots + rm.slots) Q (F0 m (pc + 3) ls ((rv x).toList ++ rest)))
    (kT : ∀ (cn : Nat), r = .inr cn → sh = sh' → ∀ (aa' : Nat → Nat) (H1 : Heap) (locs1 : List Loc) (q : Nat) (ce : Cell), Wd D (faB oa aa' sh') (feB tc oa aa' sh' ln') A s.heap μ' H1 locs1 → (∀ k a, faB oa aa' sh' k = some a → AF (faB oa aa sh) H.size a) → H.size ≤ H1.size → (∀ q : Nat, q < H.size → ¬ AF (faB oa aa sh) H.size q → H1[q]? = H[q]?) → H1[q]? = some ce → ce.vm = .none → s.vm.findClass (exn cn) = some ce.cls → vx_W p l e R s m args below meth c H1 locs1 (cells + rm.cells) (slots + rm.slots) Q (F0 m pc ls rest) q) :
    W p l e R s m args below meth c H locs cells slots Q (F0 m pc ls st) := by
  have C' := C
  obtain ⟨⟨hx, hb, hml, hown, hts⟩, hK, hro⟩ := C
  obtain ⟨⟨k1, k2, k3, k4, k5⟩, k6⟩ := K
  have hG : GoodIn GW (wsV own index C0 y (wy y bytes maxL ret)) := by
    intro w hw
    rcases List.mem_append.mp hw with hw | hw
    · simp only [List.mem_cons, List.not_mem_nil, or_false] at hw
      rcases hw with rfl | rfl | rfl | rfl
      · exact ⟨k1, gw_good k1⟩
      · exact ⟨k2, gw_good k2⟩
      · exact ⟨k3, gw_good k3⟩
      · exact ⟨k4, gw_good k4⟩
    · exact gw_wy k5 w hw
  have hW0 := hW
  obtain ⟨⟨ws, h1', hP, hD⟩, hS, hA, hZ, hi⟩ := hW0
  obtain ⟨q0, hq⟩ := h1'.get ha
  rw [he] at hq
  subst hst
  cases r with
  | inl x =>
    have hM : CtO l D tc ro oa y bytes maxL ret rm (.ref b :: As) sh ln μ (fun _ => rv x) sh' ln' μ' := hM
    refine r_run (va_runV C'.1 (hM aa H.size) (cwV n hts hG rfl rfl rfl k6 hR) ⟨Ctp.blind, va_recv hK hP hc hq, fun U hU hWm => ⟨rfl, by rw [hU], by rw [hU]; exact hW.1, va_K.moved hWm.alike hK, hW.2.2.2.2, hro.kept hW.2.1 hW.sub hU hWm⟩⟩ rfl hn hl.1 rfl (lv_room hw) hdg hf) ?_
    intro v st₀ t H1 L e0 e1 hL hq2
    obtain ⟨oa', hg, z1, ⟨aa', z2, z4, z5⟩, z3⟩ := hq2
    cases z1
    subst e1
    subst e0
    exact kI x rfl oa' aa' _ _ hg (hW.afterA z2 z4 z5 z3.1 z3.2 hL) z4 z3.1 z3.2
  | inr cn =>
    obtain ⟨rfl, hM⟩ : sh = sh' ∧ CtT l D tc ro oa y bytes maxL ret rm (.ref b :: As) sh ln μ cn ln' μ' := hM
    have hr := vx_runV (e := e) (below := below) (meth := meth) (locs := locs) C'.1 (hM aa H.size) (cwV n hts hG rfl rfl rfl k6 hR) ⟨Ctpx.blind, va_recv hK hP hc hq, fun U hUH hWm => ⟨rfl, x_pre C' hU hN hW hUH hWm⟩⟩ (g := F0 m pc ls (As.reverse ++ .ref b :: rest)) rfl hn hl.1 rfl (lv_room hw) hdg hf
    intro T hT X
    rcases hr T hT X with ⟨v, st₀, t, T', L, h0, X', hL, e1, e2, hq2, st⟩ | ⟨q, st₀, t, T', L, E, ce, h0, X', hL, e1, e2, ⟨hE, ⟨aa', z2, z4, z5⟩, z3⟩, hce, hcv, hcl, st⟩
    · exact hq2.elim
    · have z6 := z3.1
      have z7 := z3.2
      rw [h0, ← e1] at z6 z7
      rw [← e1] at z2
      have hW2 := hW.afterA z2 z4 z5 z6 z7 hL
      obtain ⟨t2, a1, b1⟩ := kT cn rfl rfl aa' T'.heap (locs ++ L) q ce hW2 z4 z6 z7 (by rw [e1]; exact hce) hcv (by rw [← hE]; exact hcl) T' rfl X'
      exact ⟨t2, st.trans a1, b1⟩
/-- out[0] = x -/
theorem r_lastW (C : Cx p s m args c own ccx nL D tc ro A) (hW : Wd D fa fe A s.heap μ H locs) (hO : outc tc o f H) (hno : ∀ k, fa k ≠ some o) (hAo : A o) {x : Int64} (hdg : decode ccx pc = .ok (.lastore, 1))
    (kk : ∀ (H1 : Heap) (locs1 : List Loc), Wd D fa fe A s.heap μ H1 locs1 → H1.size = H.size → outc tc o (fun j => if j = 0 then x else f j) H1 → W p l e R s m args below meth c H1 locs1 cells slots Q (F0 m (pc + 1) ls rest)) : W p l e R s m args below meth c H locs cells slots Q (F0 m pc ls (.long x :: .int 0 :: .ref o :: rest)) := by
  obtain ⟨⟨hx, hb, hml, hown, hts⟩, hK, hro⟩ := C
  refine W.last hx hb hO ((hK.2 4 _ rfl).1 1 (fun j => .long (f j))) (fun q => by cases q) (by rw [arrV_size]; decide) rfl rfl hdg (fun H1 e1 z oq => kk H1 _ ⟨?_, hW.2.1.put z oq hAo, hW.2.2⟩ z ?_)
  · exact hW.1.kept (fun k a ha => oq a (fun e2 => hno k (by rw [← e2]; exact ha)))
  · show H1[o]? = some (arrV (tc 4) 1 (fun j => .long (if j = 0 then x else f j)))
    rw [e1]
    refine congrArg some ?_
    rw [show (0 : Int32).toNatClampNeg = 0 from rfl, arrV_store]
    refine congrArg (arrV (tc 4) 1) (funext fun j => ?_)
    unfold updV
    by_cases e : j = 0
    · rw [if_pos e, if_pos e]
    · rw [if_neg e, if_neg e]
/-- a wrapper's end -/
theorem r_iretW {cd : Int32} {lvo : Option Int64} {C1 S1 : Nat} {fa0 : Fa} (C : Cx p s m args c own ccx nL D tc ro A) (hr : meth.sig.returnType = some .int) (hk : meth.locks = false) (hAe : A = ApO fa0 s.heap.size o) (hg : AGR sh oa oa') (hW : Wd D (faB oa' aa sh') (feB tc oa' aa sh' ln') A s.heap μ H locs) (hf0 : ∀ k a, faB oa' aa sh' k = some a → AF fa0 s.heap.size a) (hO : outc tc o f H) (hlv : ∀ v, lvo = some v → f 0 = v) (h1 : cells ≤ C1) (h2 : slots ≤ S1) (hdg : decode ccx pc = .ok (.ireturn, 1)) :
    W p l e R s m args below meth c H locs cells slots (vx_MQ below (Wpost D tc oa sh fa0 s.heap.size o sh' ln' μ cd lvo) (fun _ _ _ => False) args s C1 S1 A) (F0 m pc ls [.int cd]) := by
  obtain ⟨⟨hx, hb, -, -, -⟩, -, -⟩ := C
  refine vx_ret (W.widen h1 h2 ?_)
  exact W.iret hx hb hr (fun t ht _ => ⟨rfl, ⟨oa', hg, aa, by rw [ht]; exact hW.1, hf0, hW.2.2.2.2⟩, ⟨f, by rw [ht]; exact hO, hlv⟩, by rw [← hAe]; exact hW.2.1.F ht⟩) hW.2.1.2.2 hdg hk
end ROWSW
