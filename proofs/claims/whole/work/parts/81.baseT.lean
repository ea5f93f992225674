-- methods that throw: what they owe; a throw; a call that throws
def exn : Nat → String
  | 1 => "java/lang/IndexOutOfBoundsException"
  | 2 => "java/util/NoSuchElementException"
  | 3 => "java/lang/IllegalArgumentException"
  | 4 => "java/lang/IllegalStateException"
  | _ => "java/lang/UnsupportedOperationException"
abbrev ZqU (A : Nat → Prop) (U : State) (H : Heap) : Prop := vx_Zq Bundle.tN "UNASSIGNED_STACK" Bundle.steD A U H
def NwT (U : State) : Prop := ∀ w ∈ nwT, va_Nw w U
theorem nwT_on : ∀ w ∈ nwT, w.onTables = true := by decide +kernel
theorem NwT.same {u U : State} (h : u.vm = U.vm) (hZ : NwT u) : NwT U := fun w hw => va_tabs (nwT_on w hw) h (hZ w hw)
theorem NwT.warm {s U : State} (hW : s.WarmedH U.vm) (hZ : NwT s) : NwT U := by
  intro w hw
  have h := hZ w hw
  unfold nwT at hw
  simp only [List.mem_cons, List.not_mem_nil, or_false] at hw
  rcases hw with rfl | rfl | rfl | rfl | rfl | rfl | rfl | rfl
  · exact va_Nw.warmC hW h
  · exact va_Nw.warmC hW h
  · exact va_Nw.warmC hW h
  · exact va_Nw.warmC hW h
  · exact va_Nw.warmC hW h
  · exact va_Nw.warmD hW h
  · exact va_Nw.warmD hW h
  · exact va_Nw.warmD hW h
def ZqN (A : Nat → Prop) (U : State) (H : Heap) : Prop := vx_Zq Bundle.tN "SUPPRESSED_SENTINEL" Bundle.listD A U H ∧ NwT U
def Ctpx (D : va_G) (tc : Nat → ClassId) (ro : Ro) (fa : Fa) (fe : Fe) (μ : Mm) (sz : Nat) (U : State) : Prop := Ctp D tc ro fa fe μ sz U ∧ ZqU (AF fa sz) U U.heap ∧ ZqN (AF fa sz) U U.heap
theorem Ctpx.blind {D : va_G} {tc : Nat → ClassId} {ro : Ro} {fa : Fa} {fe : Fe} {μ : Mm} {sz : Nat} {av : List Value} : FrameBlind (va_Pc av (Ctpx D tc ro fa fe μ sz)) := by
  intro a U g mk q
  obtain ⟨q0, q1, q2, q3⟩ := q
  exact ⟨q0, (Ctp.blind a U g mk ⟨q0, q1⟩).2, vx_Zq.moved (u := U) (U := U.calling g mk a) (Vm.Alike.refl U.vm) q2, vx_Zq.moved (u := U) (U := U.calling g mk a) (Vm.Alike.refl U.vm) q3.1, NwT.same (u := U) (U := U.calling g mk a) rfl q3.2⟩
def XCt (D : va_G) (tc : Nat → ClassId) (oa : Ky → Nat) (sh : Sh) (cn : Nat) (ln' : Nat → Nat) (μ' : Mm) (A : Nat → Prop) : String → State → State → Prop := fun E st t =>
  E = exn cn ∧ (∃ aa, wd D (faB oa aa sh) (feB tc oa aa sh ln') μ' t.heap ∧ (∀ k a, faB oa aa sh k = some a → A a) ∧ inj (faB oa aa sh)) ∧ va_F A st t
def CtT (l : Launch) (D : va_G) (tc : Nat → ClassId) (ro : Ro) (oa : Ky → Nat) (y : MethodName) (cc : ByteArray) (maxL : Nat) (ret : Option FieldType) (rm : Room) (av : List Value) (sh : Sh) (ln : Nat → Nat) (μ : Mm) (cn : Nat) (ln' : Nat → Nat) (μ' : Mm) : Prop :=
  ∀ (aa : Nat → Nat) (sz : Nat), vx_Met l y (wy y cc maxL ret) rm (va_Pc av (Ctpx D tc ro (faB oa aa sh) (feB tc oa aa sh ln) μ sz)) (fun _ _ _ _ => False) (XCt D tc oa sh cn ln' μ' (AF (faB oa aa sh) sz)) rm.cells rm.slots (AF (faB oa aa sh) sz)
theorem CtT.of {l : Launch} {D : va_G} {tc : Nat → ClassId} {ro : Ro} {oa : Ky → Nat} {y : MethodName} {cc : ByteArray} {maxL : Nat} {ret : Option FieldType} {rm : Room} {av : List Value} {sh : Sh} {ln : Nat → Nat} {μ : Mm} {cn : Nat} {ln' : Nat → Nat} {μ' : Mm}
    (hy : plainName y.cls = true) (hlen : (lg_sl av).length ≤ maxL)
    (body : ∀ (aa : Nat → Nat) (p : Program) (e : Env) (s : State) (m : MethodId) (args : Array Value) (below : List Frame) (meth : Method) (c : Code) (A : Nat → Prop), Cx p s m args c y.cls cc maxL D tc ro A → meth.sig.returnType = ret → meth.locks = false → Wd D (faB oa aa sh) (feB tc oa aa sh ln) A s.heap μ s.heap [] →
      (∀ x ∈ c.exceptionTable.toList, False) → ZqU A s s.heap → ZqN A s s.heap → ∀ ls : Array Slot, lv_has ls maxL (lv_args 0 av) → W p l e rm s m args below meth c s.heap [] 0 0 (vx_MQ below (fun _ _ _ _ => False) (XCt D tc oa sh cn ln' μ' A) args s rm.cells rm.slots A) (F0 m 0 ls [])) :
    CtT l D tc ro oa y cc maxL ret rm av sh ln μ cn ln' μ' := by
  intro aa sz
  refine vx_ofW (cc := cc) (maxL := maxL) (ret := ret) hy rfl ?_
  intro p e s m args below meth c s₁ B hml ht hv
  obtain ⟨rfl, ⟨hsz, hw, hK, hi, hro⟩, hU, hN⟩ := hv
  subst hsz
  have hts := atoms_spec (ws := wy y cc maxL ret) B.pre
  have hl := lv_entry av (n := maxL) hlen
  rw [lg_entry_eq]
  exact body aa p e s m _ below meth c _ ⟨⟨B.exec, B.bytes, hml, findClass_of_methodNamed B.named, fun w h => hts w (List.mem_cons_of_mem _ h)⟩, hK, hro⟩ B.returns B.notSynchronized ⟨hw, va_S.rf, fun k a h => Or.inl ⟨k, h⟩, fun q h => Or.inr h, hi⟩ ht hU hN _ hl
theorem wd.lt {D : va_G} {fa : Fa} {fe : Fe} {μ : Mm} {H : Heap} (h : wd D fa fe μ H) {k : Ky} {a : Nat} (ha : fa k = some a) : a < H.size := by
  obtain ⟨ws, h1, hP, -⟩ := h
  obtain ⟨q0, hq⟩ := h1.get ha
  exact vx_lt hP hq
theorem wd.kept {D : va_G} {fa : Fa} {fe : Fe} {μ : Mm} {H H1 : Heap} (h : wd D fa fe μ H) (hk : ∀ (k : Ky) (a : Nat), fa k = some a → H1[a]? = H[a]?) : wd D fa fe μ H1 := by
  obtain ⟨ws, h1, hP, hD⟩ := h
  refine ⟨ws, h1, hP.kept (fun i q hq => ?_), hD⟩
  obtain ⟨k, a, h2, h3⟩ := (h1 q).mp (List.mem_of_getElem? hq)
  rw [h3]
  exact hk k a h2
theorem wd.keptlt {D : va_G} {fa : Fa} {fe : Fe} {μ : Mm} {H H1 : Heap} (h : wd D fa fe μ H) (hk : ∀ a : Nat, a < H.size → H1[a]? = H[a]?) : wd D fa fe μ H1 := h.kept (fun _ a ha => hk a (h.lt ha))
theorem vx_ot_of {w : Cond} (h : w ∈ GW) : vx_ot w = true := by
  have := (List.mem_filter.mp h).2
  unfold vx_ot
  rw [this, Bool.or_true]
section ROWST
variable {p : Program} {l : Launch} {e : Env} {R : Room} {s : State} {m : MethodId} {args : Array Value} {below : List Frame} {meth : Method} {c : Code} {H : Heap} {locs : List Loc} {cells slots : Nat} {Q : State → Prop}
variable {ccx : ByteArray} {pc np nL : Nat} {ls : Array Slot} {rest st : List Value} {D : va_G} {tc : Nat → ClassId} {ro : Ro} {oa : Ky → Nat} {aa : Nat → Nat} {sh : Sh} {ln ln' : Nat → Nat} {A : Nat → Prop} {μ μ' : Mm} {own : String} {k : Ky} {b : Nat} {lv : List (Nat × Value)} {Qc : Array Value → State → Outcome → State → Prop} {C1 S1 cn : Nat}
/-- throw new E("text") -/
theorem r_throw (C : Cx p s m args c own ccx nL D tc ro A) (hs : l.stackTraces = false) (ht : ∀ x ∈ c.exceptionTable.toList, False) (hU : ZqU A s s.heap) (hN : ZqN A s s.heap) (hlk : meth.locks = false) (hW : Wd D (faB oa aa sh) (feB tc oa aa sh ln) A s.heap μ H locs) (hl : lv_has ls nL lv)
    {E Y0 text : String} {names : List String} {ik is ic sa idx : Nat} {bytes : ByteArray} (hE : E = exn cn) (hall : ∀ w ∈ Cond.classLink own ik E :: Cond.initialized E :: (vz_own own ic E Y0 idx bytes names).filter vx_no, w ∈ GW ∨ w ∈ nwT)
    (hB : decode bytes 0 = .ok (.aload_n 0, 1) ∧ decode bytes 1 = .ok (.aload_n 1, 1) ∧ decode bytes 2 = .ok (.invokespecial idx, 3) ∧ decode bytes 5 = .ok (.return_, 1)) (hfit : Bundle.fit E = true) (hY0 : Bundle.fit Y0 = true) (hnames : ∀ n ∈ names, Bundle.fit n = true) (hstr : vk_R own is text sa s)
    (d0 : decode ccx pc = .ok (.new ik, 3)) (d3 : decode ccx (pc + 3) = .ok (.dup, 1)) (d4 : (decode ccx (pc + 4) = .ok (.ldc is, 2) ∧ np = pc + 6) ∨ (decode ccx (pc + 4) = .ok (.ldc_w is, 3) ∧ np = pc + 7)) (d6 : decode ccx np = .ok (.invokespecial ic, 3)) (d9 : decode ccx (np + 3) = .ok (.athrow, 1))
    (hRf : names.length + 4 < R.frames) (hRl : (rest.map fun v => v.category).sum + (13 * (names.length + 2) + 43) ≤ R.locals) (hc1 : cells + 1 ≤ R.cells) (hs1 : slots + 6 ≤ R.slots) (h1 : cells + 1 ≤ C1) (h2 : slots + 6 ≤ S1) :
    W p l e R s m args below meth c H locs cells slots (vx_MQ below Qc (XCt D tc oa sh cn ln μ A) args s C1 S1 A) (F0 m pc ls rest) := by
  obtain ⟨⟨hx, hb, hml, hown, hts⟩, hK, hro⟩ := C
  have hgo : ∀ w, w ∈ GW ∨ w ∈ nwT → w.before args s = true := fun w hw => hw.elim (hts w) (fun h => va_Nw.use (nwT_on w h) (hN.2 w h))
  refine vz_make (A := A) hx hb hs hown hfit hY0 hnames hB (hgo _ (hall _ List.mem_cons_self)) (hgo _ (hall _ (List.mem_cons_of_mem _ List.mem_cons_self))) hstr (fun w hw => hgo _ (hall _ (List.mem_cons_of_mem _ (List.mem_cons_of_mem _ hw)))) (fun w hw => (hall w hw).elim vx_ot_of (nwT_ot w)) hU hN.1 hW.2.1 (hl.1.trans hml.symm) d0 d3 d4 d6 hRf hRl hc1 hs1 (fun q H1 ce hz hk hce hcv hcl => ?_)
  refine vx_athrow hx hb d9 ?_
  refine vx_out (fun x hx => (ht x hx).elim) hlk hce hcv hcl (fun t ht2 hal => ⟨hE, ⟨aa, ?_, hW.2.2.1, hW.2.2.2.2⟩, ?_⟩) hW.2.1.2.2 h1 h2
  · rw [ht2]; exact hW.1.keptlt hk
  · exact ⟨by rw [ht2]; exact Nat.le_trans hW.2.1.1 hz, fun q h1 h2 => by rw [ht2, hk q (Nat.lt_of_lt_of_le h1 hW.2.1.1)]; exact hW.2.1.2.1 q h1 h2⟩
theorem x_pre (C : Cx p s m args c own ccx nL D tc ro A) (hU : ZqU A s s.heap) (hN : ZqN A s s.heap) {fa : Fa} {fe : Fe} (hW : Wd D fa fe A s.heap μ H locs) {U : State} (hUH : U.heap = H) (hWm : s.WarmedH U.vm) : Ctpx D tc ro fa fe μ H.size U := by
  obtain ⟨⟨hx, hb, hml, hown, hts⟩, hK, hro⟩ := C
  refine ⟨⟨by rw [hUH], by rw [hUH]; exact hW.1, va_K.moved hWm.alike hK, hW.2.2.2.2, hro.kept hW.2.1 hW.sub hUH hWm⟩, ?_, ?_⟩
  · rw [hUH]; exact vx_Zq.moved hWm.alike ((hU.kept hW.2.1.2.1).narrow hW.sub)
  · rw [hUH]; exact ⟨vx_Zq.moved hWm.alike ((hN.1.kept hW.2.1.2.1).narrow hW.sub), hN.2.warm hWm⟩
variable {C0 : String} {index n maxL : Nat} {y : MethodName} {bytes : ByteArray} {ret : Option FieldType} {rm : Room} {As : List Value}
/-- a call that throws, in a method that doesn't catch -/
theorem r_callT (C : Cx p s m args c own ccx nL D tc ro A) (ht : ∀ x ∈ c.exceptionTable.toList, False) (hU : ZqU A s s.heap) (hN : ZqN A s s.heap) (hlk : meth.locks = false) (hW : Wd D (faB oa aa sh) (feB tc oa aa sh ln) A s.heap μ H locs) (hl : lv_has ls nL lv) (K : LkV own index C0 y bytes maxL ret n) (hM : CtT l D tc ro oa y bytes maxL ret rm (.ref b :: As) sh ln μ cn ln' μ')
    (hR : rm.frames + 1 ≤ R.frames ∧ 8 + (maxL + 11) + rm.locals ≤ R.locals) {T : u_T} {N ci : Nat} (hc : cls[ci]? = some (C0, T, N)) (ha : faB oa aa sh k = some b) {fs : List Value} (he : feB tc oa aa sh ln k (μ k) = .inr (ci, fs))
    (hn : As.length = n) (hst : st = As.reverse ++ .ref b :: rest) (hw : (rest.map fun v => v.category).sum ≤ 8) (hdg : decode ccx pc = .ok (.invokevirtual index, 3)) (hf : cells + rm.cells ≤ R.cells ∧ slots + rm.slots ≤ R.slots) (h1 : cells + rm.cells ≤ C1) (h2 : slots + rm.slots ≤ S1) :
    W p l e R s m args below meth c H locs cells slots (vx_MQ below Qc (XCt D tc oa sh cn ln' μ' A) args s C1 S1 A) (F0 m pc ls st) := by
  have C' := C
  obtain ⟨⟨hx, hb, hml, hown, hts⟩, hK, hro⟩ := C
  obtain ⟨⟨k1, k2, k3, k4, k5⟩, k6⟩ := K
  have hG : GoodIn GW (wsV own index C0 y (wy y bytes maxL ret)) := by
    intro w hw
    rcases List.mem_append.mp hw with hw | hw
    · simp only [List.mem_cons, List.not_mem_nil, or_false] at hw
      rcases hw with rfl | rfl | rfl | rfl
      · exact ⟨k1, gw_good k1⟩
      · exact ⟨k2, gw_good k2⟩
      · exact ⟨k3, gw_good k3⟩
      · exact ⟨k4, gw_good k4⟩
    · exact gw_wy k5 w hw
  have hW0 := hW
  obtain ⟨⟨ws, h1', hP, hD⟩, hS, hA, hZ, hi⟩ := hW0
  obtain ⟨q0, hq⟩ := h1'.get ha
  rw [he] at hq
  subst hst
  have hr := vx_runV (e := e) (below := below) (meth := meth) (locs := locs) C'.1 (hM aa H.size) (cwV n hts hG rfl rfl rfl k6 hR) ⟨Ctpx.blind, va_recv hK hP hc hq, fun U hUH hWm => ⟨rfl, x_pre C' hU hN hW hUH hWm⟩⟩ (g := F0 m pc ls (As.reverse ++ .ref b :: rest)) rfl hn hl.1 rfl (lv_room hw) hdg hf
  intro T hT X
  rcases hr T hT X with ⟨v, st₀, t, T', L, h0, X', hL, e1, e2, hq2, st⟩ | ⟨q, st₀, t, T', L, E, ce, h0, X', hL, e1, e2, ⟨hE, ⟨aa', z2, z4, z5⟩, z3⟩, hce, hcv, hcl, st⟩
  · exact hq2.elim
  · have z6 := z3.1
    have z7 := z3.2
    rw [h0, ← e1] at z6 z7
    rw [← e1] at z2
    have hW2 := hW.afterA z2 z4 z5 z6 z7 hL
    obtain ⟨t2, a1, b1⟩ := vx_out (c := c) (pc := pc) (ls := ls) (rest := rest) (Qc := Qc) (XC := XCt D tc oa sh cn ln' μ' A) (args := args) (below := below) (mc := C1) (ms := S1) (free := A) (p := p) (l := l) (e := e) (R := R) (s := s) (m := m) (meth := meth) (H := T'.heap) (cells := cells + rm.cells) (slots := slots + rm.slots) (fun x hx => (ht x hx).elim) hlk (by rw [e1]; exact hce) hcv hcl (fun t ht2 hal => ⟨hE, ⟨aa', by rw [ht2]; exact hW2.1, hW2.2.2.1, hW2.2.2.2.2⟩, hW2.2.1.F ht2⟩) hW2.2.1.2.2 h1 h2 T' rfl X'
    exact ⟨t2, st.trans a1, b1⟩
end ROWST
-- outcomes
theorem xb_of {R M : Type} {need : Option (Unit ⊕ Nat)} {μ μ' : M} {k : Option ((R ⊕ Nat) × M)} {cn : Nat} (h : xb need μ k = some (.inr cn, μ')) : (need = some (.inl ()) ∧ k = some (.inr cn, μ')) ∨ (need = some (.inr cn) ∧ μ = μ') := by
  unfold xb at h
  obtain ⟨z, h1, h2⟩ := bd_of h
  rcases z with z | z
  · exact Or.inl ⟨h1, h2⟩
  · cases h2
    exact Or.inr ⟨h1, rfl⟩
theorem xb_inl {R M : Type} {need : Option (Unit ⊕ Nat)} {μ μ' : M} {k : Option ((R ⊕ Nat) × M)} {v : R} (h : xb need μ k = some (.inl v, μ')) : need = some (.inl ()) ∧ k = some (.inl v, μ') := by
  unfold xb at h
  obtain ⟨z, h1, h2⟩ := bd_of h
  rcases z with z | z
  · exact ⟨h1, h2⟩
  · cases h2
theorem ml_no {R M : Type} {x : Option (R × M)} {cn : Nat} {μ' : M} (h : ml x = some (.inr cn, μ')) : False := by
  obtain ⟨a, -, h2⟩ := map_of h
  cases h2
theorem ml0_no {R M : Type} {x : Option R} {μ : M} {cn : Nat} {μ' : M} (h : ml0 μ x = some (.inr cn, μ')) : False := by
  obtain ⟨a, -, h2⟩ := map_of h
  cases h2
theorem ml_inl {R M : Type} {x : Option (R × M)} {v : R} {μ' : M} (h : ml x = some (.inl v, μ')) : x = some (v, μ') := by
  obtain ⟨a, h1, h2⟩ := map_of h
  cases h2
  exact h1
theorem ml0_inl {R M : Type} {x : Option R} {μ : M} {v : R} {μ' : M} (h : ml0 μ x = some (.inl v, μ')) : x = some v ∧ μ' = μ := by
  obtain ⟨a, h1, h2⟩ := map_of h
  cases h2
  exact ⟨h1, rfl⟩
theorem xbO_of {need : Option (Unit ⊕ Nat)} {sh sh' : Sh} {lm lm' : Nat → Nat} {μ μ' : Mm} {k : Option (((Int32 ⊕ Nat) × Sh × (Nat → Nat) × Mm) × Nat × Nat)} {cn kc ks : Nat} (h : xbO need sh lm μ k = some ((.inr cn, sh', lm', μ'), kc, ks)) : (need = some (.inl ()) ∧ k = some ((.inr cn, sh', lm', μ'), kc, ks)) ∨ (need = some (.inr cn) ∧ sh = sh' ∧ lm = lm' ∧ μ = μ' ∧ 0 = kc ∧ 0 = ks) := by
  unfold xbO at h
  obtain ⟨z, h1, h2⟩ := bd_of h
  rcases z with z | z
  · exact Or.inl ⟨h1, h2⟩
  · cases h2
    exact Or.inr ⟨h1, rfl, rfl, rfl, rfl, rfl⟩
theorem xbO_inl {need : Option (Unit ⊕ Nat)} {sh sh' : Sh} {lm lm' : Nat → Nat} {μ μ' : Mm} {k : Option (((Int32 ⊕ Nat) × Sh × (Nat → Nat) × Mm) × Nat × Nat)} {v : Int32} {kc ks : Nat} (h : xbO need sh lm μ k = some ((.inl v, sh', lm', μ'), kc, ks)) : need = some (.inl ()) ∧ k = some ((.inl v, sh', lm', μ'), kc, ks) := by
  unfold xbO at h
  obtain ⟨z, h1, h2⟩ := bd_of h
  rcases z with z | z
  · exact ⟨h1, h2⟩
  · cases h2
theorem act_no {sh sh' : Sh} {lm lm' : Nat → Nat} {μ μ' : Mm} {F : Sh → (Nat → Nat) → Nat → Mm → Option ((Int32 × (Nat → Nat) × Mm) × Nat × Nat)} {cn kc ks : Nat} (h : actO sh lm μ F = some ((.inr cn, sh', lm', μ'), kc, ks)) : False := by
  unfold actO at h
  obtain ⟨x, -, h⟩ := bd_of h
  obtain ⟨a, b, h, -, -⟩ := addc_of h
  obtain ⟨-, h⟩ := ce_of h
  obtain ⟨y, -, h⟩ := bd_of h
  obtain ⟨a', b', h, -, -⟩ := addc_of h
  cases h
theorem lfA_no {sh sh' : Sh} {lm' : Nat → Nat} {μ' : Mm} {x : Option ((Int32 × (Nat → Nat) × Mm) × Nat × Nat)} {cn kc ks : Nat} (h : lfA sh x = some ((.inr cn, sh', lm', μ'), kc, ks)) : False := by
  obtain ⟨a, -, h2⟩ := map_of h
  cases h2
