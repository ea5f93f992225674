-- the tables' good words
def lw_ext : List Cond := [Cond.selects "BackVillage$VillageReader" ⟨"BackVillage$TextReader", "endOfThing", "(I)I"⟩ ⟨"BackVillage$TextReader", "endOfThing", "(I)I"⟩,
  Cond.selects "BackVillage$VillageReader" ⟨"BackVillage$TextReader", "byteAt", "(I)I"⟩ ⟨"BackVillage$TextReader", "byteAt", "(I)I"⟩,
  Cond.selects "BackVillage$VillageReader" ⟨"BackVillage$TextReader", "keep", "(II)V"⟩ ⟨"BackVillage$TextReader", "keep", "(II)V"⟩,
  Cond.selects "BackVillage$VillageReader" ⟨"BackVillage$TextReader", "kindOfWord", "(II)I"⟩ ⟨"BackVillage$TextReader", "kindOfWord", "(II)I"⟩,
  Cond.selects "BackVillage$VillageReader" ⟨"BackVillage$TextReader", "isWord", "(IILjava/lang/String;)Z"⟩ ⟨"BackVillage$TextReader", "isWord", "(IILjava/lang/String;)Z"⟩,
  Cond.selects "BackVillage$VillageReader" ⟨"BackVillage$TextReader", "valueOf", "(II)I"⟩ ⟨"BackVillage$TextReader", "valueOf", "(II)I"⟩,
  Cond.selects "BackVillage$LawReader" ⟨"BackVillage$TextReader", "endOfThing", "(I)I"⟩ ⟨"BackVillage$TextReader", "endOfThing", "(I)I"⟩,
  Cond.selects "BackVillage$LawReader" ⟨"BackVillage$TextReader", "byteAt", "(I)I"⟩ ⟨"BackVillage$TextReader", "byteAt", "(I)I"⟩,
  Cond.selects "BackVillage$LawReader" ⟨"BackVillage$TextReader", "keep", "(II)V"⟩ ⟨"BackVillage$TextReader", "keep", "(II)V"⟩,
  Cond.selects "BackVillage$LawReader" ⟨"BackVillage$TextReader", "kindOfWord", "(II)I"⟩ ⟨"BackVillage$TextReader", "kindOfWord", "(II)I"⟩,
  Cond.selects "BackVillage$LawReader" ⟨"BackVillage$TextReader", "isWord", "(IILjava/lang/String;)Z"⟩ ⟨"BackVillage$TextReader", "isWord", "(IILjava/lang/String;)Z"⟩,
  Cond.selects "BackVillage$LawReader" ⟨"BackVillage$TextReader", "valueOf", "(II)I"⟩ ⟨"BackVillage$TextReader", "valueOf", "(II)I"⟩]
def GW : List Cond := (lw_ext ++ lw_tbl).filter goodWord
theorem gw_of {w : Cond} (h : w ∈ lw_tbl) (hg : goodWord w = true) : w ∈ GW := List.mem_filter.mpr ⟨List.mem_append_right _ h, hg⟩
theorem gwe {w : Cond} {i : Nat} (h : lw_ext[i]? = some w) (hg : goodWord w = true) : w ∈ GW := List.mem_filter.mpr ⟨List.mem_append_left _ (List.mem_of_getElem? h), hg⟩
theorem lw_t {w : Cond} (h : w ∈ tables_1) : w ∈ lw_tbl := List.mem_append_right _ h
theorem lw_s {q : MethodName × Nat} (h : q ∈ lw_privs) : Cond.selects q.1.cls q.1 q.1 ∈ lw_tbl := List.mem_append_left _ (List.mem_map.mpr ⟨q, h, rfl⟩)
theorem gw_1 {w : Cond} {i : Nat} (h : tables_1_1[i]? = some w) (hg : goodWord w = true) : w ∈ GW := gw_of (lw_t (List.mem_append_left _ (List.mem_of_getElem? h))) hg
theorem gw_2 {w : Cond} {i : Nat} (h : tables_1_2[i]? = some w) (hg : goodWord w = true) : w ∈ GW := gw_of (lw_t (List.mem_append_right _ (List.mem_append_left _ (List.mem_of_getElem? h)))) hg
theorem gw_3 {w : Cond} {i : Nat} (h : tables_1_3[i]? = some w) (hg : goodWord w = true) : w ∈ GW := gw_of (lw_t (List.mem_append_right _ (List.mem_append_right _ (List.mem_append_left _ (List.mem_of_getElem? h))))) hg
theorem gw_4 {w : Cond} {i : Nat} (h : tables_1_4[i]? = some w) (hg : goodWord w = true) : w ∈ GW := gw_of (lw_t (List.mem_append_right _ (List.mem_append_right _ (List.mem_append_right _ (List.mem_append_left _ (List.mem_of_getElem? h)))))) hg
theorem gw_5 {w : Cond} {i : Nat} (h : tables_1_5[i]? = some w) (hg : goodWord w = true) : w ∈ GW := gw_of (lw_t (List.mem_append_right _ (List.mem_append_right _ (List.mem_append_right _ (List.mem_append_right _ (List.mem_append_left _ (List.mem_of_getElem? h))))))) hg
theorem gw_6 {w : Cond} {i : Nat} (h : tables_1_6[i]? = some w) (hg : goodWord w = true) : w ∈ GW := gw_of (lw_t (List.mem_append_right _ (List.mem_append_right _ (List.mem_append_right _ (List.mem_append_right _ (List.mem_append_right _ (List.mem_append_left _ (List.mem_of_getElem? h)))))))) hg
theorem gw_7 {w : Cond} {i : Nat} (h : tables_1_7[i]? = some w) (hg : goodWord w = true) : w ∈ GW := gw_of (lw_t (List.mem_append_right _ (List.mem_append_right _ (List.mem_append_right _ (List.mem_append_right _ (List.mem_append_right _ (List.mem_append_right _ (List.mem_append_left _ (List.mem_of_getElem? h))))))))) hg
theorem gw_8 {w : Cond} {i : Nat} (h : tables_1_8[i]? = some w) (hg : goodWord w = true) : w ∈ GW := gw_of (lw_t (List.mem_append_right _ (List.mem_append_right _ (List.mem_append_right _ (List.mem_append_right _ (List.mem_append_right _ (List.mem_append_right _ (List.mem_append_right _ (List.mem_append_left _ (List.mem_of_getElem? h)))))))))) hg
theorem gw_9 {w : Cond} {i : Nat} (h : tables_1_9[i]? = some w) (hg : goodWord w = true) : w ∈ GW := gw_of (lw_t (List.mem_append_right _ (List.mem_append_right _ (List.mem_append_right _ (List.mem_append_right _ (List.mem_append_right _ (List.mem_append_right _ (List.mem_append_right _ (List.mem_append_right _ (List.mem_append_left _ (List.mem_of_getElem? h))))))))))) hg
theorem gw_10 {w : Cond} {i : Nat} (h : tables_1_10[i]? = some w) (hg : goodWord w = true) : w ∈ GW := gw_of (lw_t (List.mem_append_right _ (List.mem_append_right _ (List.mem_append_right _ (List.mem_append_right _ (List.mem_append_right _ (List.mem_append_right _ (List.mem_append_right _ (List.mem_append_right _ (List.mem_append_right _ (List.mem_append_left _ (List.mem_of_getElem? h)))))))))))) hg
theorem gw_11 {w : Cond} {i : Nat} (h : tables_1_11[i]? = some w) (hg : goodWord w = true) : w ∈ GW := gw_of (lw_t (List.mem_append_right _ (List.mem_append_right _ (List.mem_append_right _ (List.mem_append_right _ (List.mem_append_right _ (List.mem_append_right _ (List.mem_append_right _ (List.mem_append_right _ (List.mem_append_right _ (List.mem_append_right _ (List.mem_of_getElem? h)))))))))))) hg
theorem gwp_1 {q : MethodName × Nat} {i : Nat} (h : lw_privs_1[i]? = some q) : Cond.selects q.1.cls q.1 q.1 ∈ GW := gw_of (lw_s (List.mem_append_left _ (List.mem_of_getElem? h))) rfl
theorem gwp_2 {q : MethodName × Nat} {i : Nat} (h : lw_privs_2[i]? = some q) : Cond.selects q.1.cls q.1 q.1 ∈ GW := gw_of (lw_s (List.mem_append_right _ (List.mem_append_left _ (List.mem_of_getElem? h)))) rfl
theorem gwp_3 {q : MethodName × Nat} {i : Nat} (h : lw_privs_3[i]? = some q) : Cond.selects q.1.cls q.1 q.1 ∈ GW := gw_of (lw_s (List.mem_append_right _ (List.mem_append_right _ (List.mem_append_left _ (List.mem_of_getElem? h))))) rfl
theorem gwp_4 {q : MethodName × Nat} {i : Nat} (h : lw_privs_4[i]? = some q) : Cond.selects q.1.cls q.1 q.1 ∈ GW := gw_of (lw_s (List.mem_append_right _ (List.mem_append_right _ (List.mem_append_right _ (List.mem_append_left _ (List.mem_of_getElem? h)))))) rfl
theorem gwp_5 {q : MethodName × Nat} {i : Nat} (h : lw_privs_5[i]? = some q) : Cond.selects q.1.cls q.1 q.1 ∈ GW := gw_of (lw_s (List.mem_append_right _ (List.mem_append_right _ (List.mem_append_right _ (List.mem_append_right _ (List.mem_append_left _ (List.mem_of_getElem? h))))))) rfl
theorem gwp_6 {q : MethodName × Nat} {i : Nat} (h : lw_privs_6[i]? = some q) : Cond.selects q.1.cls q.1 q.1 ∈ GW := gw_of (lw_s (List.mem_append_right _ (List.mem_append_right _ (List.mem_append_right _ (List.mem_append_right _ (List.mem_append_right _ (List.mem_append_left _ (List.mem_of_getElem? h)))))))) rfl
theorem gwp_7 {q : MethodName × Nat} {i : Nat} (h : lw_privs_7[i]? = some q) : Cond.selects q.1.cls q.1 q.1 ∈ GW := gw_of (lw_s (List.mem_append_right _ (List.mem_append_right _ (List.mem_append_right _ (List.mem_append_right _ (List.mem_append_right _ (List.mem_append_right _ (List.mem_append_left _ (List.mem_of_getElem? h))))))))) rfl
theorem gwp_8 {q : MethodName × Nat} {i : Nat} (h : lw_privs_8[i]? = some q) : Cond.selects q.1.cls q.1 q.1 ∈ GW := gw_of (lw_s (List.mem_append_right _ (List.mem_append_right _ (List.mem_append_right _ (List.mem_append_right _ (List.mem_append_right _ (List.mem_append_right _ (List.mem_append_right _ (List.mem_append_left _ (List.mem_of_getElem? h)))))))))) rfl
theorem gwp_9 {q : MethodName × Nat} {i : Nat} (h : lw_privs_9[i]? = some q) : Cond.selects q.1.cls q.1 q.1 ∈ GW := gw_of (lw_s (List.mem_append_right _ (List.mem_append_right _ (List.mem_append_right _ (List.mem_append_right _ (List.mem_append_right _ (List.mem_append_right _ (List.mem_append_right _ (List.mem_append_right _ (List.mem_of_getElem? h)))))))))) rfl
theorem gw_good {w : Cond} (h : w ∈ GW) : (w.onTables && w.keeps) = true ∨ ∃ ty, w = .arrayClass ty := good_of_word (List.mem_filter.mp h).2
def wy (y : MethodName) (cc : ByteArray) (maxL : Nat) (ret : Option FieldType) : List Cond := Cond.code y cc maxL ret :: GW
theorem gw_wy {y : MethodName} {cc : ByteArray} {maxL : Nat} {ret : Option FieldType} (h : Cond.code y cc maxL ret ∈ GW) : GoodIn GW (wy y cc maxL ret) := by
  intro w hw
  rcases List.mem_cons.mp hw with rfl | hw
  · exact ⟨h, gw_good h⟩
  · exact ⟨hw, gw_good hw⟩
abbrev cls : List vw_C := [(RX0, TX0, 1), (RX1, TX1, 1), (RX2, TX2, 2), (RX3, TX3, 13), (RX4, TX4, 9), (RX5, TX5, 7), (RX6, TX6, 16), (RX7, TX7, 2), (RX8, TX8, 0), (RX9, TX9, 15), (RX10, TX10, 13), (RX11, TX11, 37)]
def tys (tc : Nat → ClassId) : List (ClassId × FieldType) := [(tc 0, .int), (tc 1, .byte), (tc 2, .boolean), (tc 3, .object "BackVillage$State"), (tc 4, .long)]
-- memory: blocks by a key; an address and an entry for each key
abbrev Ky : Type := Nat × Nat
abbrev Mm : Type := Ky → Nat → Int32
def mst (μ : Mm) (k : Ky) (i : Nat) (v : Int32) : Mm := fun q => if q = k then upd (μ q) i v else μ q
abbrev Fa : Type := Ky → Option Nat
abbrev Fe : Type := Ky → (Nat → Int32) → va_E
def inj (fa : Fa) : Prop := ∀ (i j : Ky) (a : Nat), fa i = some a → fa j = some a → i = j
def AF (fa : Fa) (sz : Nat) : Nat → Prop := fun q => (∃ k, fa k = some q) ∨ sz ≤ q
def chr (fa : Fa) (fe : Fe) (μ : Mm) (ws : va_W) : Prop := ∀ q, q ∈ ws ↔ ∃ k a, fa k = some a ∧ q = (a, fe k (μ k))
def wd (D : va_G) (fa : Fa) (fe : Fe) (μ : Mm) (H : Heap) : Prop :=
  ∃ ws : va_W, chr fa fe μ ws ∧ va_P D cls ws H ∧ va_D (fun _ => True) ws
def Wd (D : va_G) (fa : Fa) (fe : Fe) (A : Nat → Prop) (H0 : Heap) (μ : Mm) (H : Heap) (locs : List Loc) : Prop := wd D fa fe μ H ∧ va_S A H0 H locs ∧ (∀ k a, fa k = some a → A a) ∧ (∀ q, H0.size ≤ q → A q) ∧ inj fa
theorem chr.get {fa : Fa} {fe : Fe} {μ : Mm} {ws : va_W} (h : chr fa fe μ ws) {k : Ky} {a : Nat} (ha : fa k = some a) : ∃ q0 : Nat, ws[q0]? = some (a, fe k (μ k)) :=
  List.mem_iff_getElem?.mp ((h _).mpr ⟨k, a, ha, rfl⟩)
theorem chr.A {fa : Fa} {fe : Fe} {μ : Mm} {ws : va_W} {A : Nat → Prop} (h : chr fa fe μ ws) (hD : va_D (fun _ => True) ws) (hA : ∀ k a, fa k = some a → A a) : va_D A ws :=
  hD.weaken (fun k q hk _ => by
    obtain ⟨j, a, h1, h2⟩ := (h q).mp (List.mem_of_getElem? hk)
    rw [h2]
    exact hA j a h1)
theorem chr.set {fa : Fa} {fe : Fe} {μ μ' : Mm} {ws : va_W} {A : Nat → Prop} (h : chr fa fe μ ws) (hi : inj fa) (hD : va_D A ws) {k : Ky} {a q0 : Nat} {e' : va_E} (ha : fa k = some a)
    (hq : ws[q0]? = some (a, fe k (μ k))) (hk : fe k (μ' k) = e') (hne : ∀ j, j ≠ k → fe j (μ' j) = fe j (μ j)) : chr fa fe μ' (ws.set q0 (a, e')) := by
  have hl : q0 < ws.length := (List.getElem?_eq_some_iff.mp hq).1
  intro q
  constructor
  · intro hm
    obtain ⟨i, hi2⟩ := List.mem_iff_getElem?.mp hm
    by_cases hiq : i = q0
    · subst hiq
      rw [List.getElem?_set_self hl] at hi2
      cases hi2
      exact ⟨k, a, ha, by rw [hk]⟩
    · rw [List.getElem?_set_ne (Ne.symm hiq)] at hi2
      obtain ⟨j, b, h1, h2⟩ := (h q).mp (List.mem_of_getElem? hi2)
      refine ⟨j, b, h1, ?_⟩
      rw [hne j (fun hjk => ?_)]
      · exact h2
      · subst hjk
        cases ha.symm.trans h1
        rw [h2] at hi2
        exact hiq (hD.1 i q0 _ _ hi2 hq rfl)
  · rintro ⟨j, b, h1, h2⟩
    by_cases hjk : j = k
    · subst hjk
      cases ha.symm.trans h1
      rw [h2, hk]
      exact List.mem_iff_getElem?.mpr ⟨q0, List.getElem?_set_self hl⟩
    · rw [hne j hjk] at h2
      obtain ⟨i, hi2⟩ := List.mem_iff_getElem?.mp ((h q).mpr ⟨j, b, h1, h2⟩)
      refine List.mem_iff_getElem?.mpr ⟨i, ?_⟩
      by_cases hiq : i = q0
      · subst hiq
        rw [hq] at hi2
        cases hi2
        have h3 : a = b := congrArg Prod.fst h2
        subst h3
        exact absurd (hi _ _ _ h1 ha) hjk
      · rw [List.getElem?_set_ne (Ne.symm hiq)]
        exact hi2
theorem mst_self (μ : Mm) (k : Ky) (i : Nat) (v : Int32) : mst μ k i v k = upd (μ k) i v := if_pos rfl
theorem mst_ne {μ : Mm} {k j : Ky} {i : Nat} {v : Int32} (h : j ≠ k) : mst μ k i v j = μ j := if_neg h
-- what is read alone: texts (objects, bytes), two statics
abbrev Ro : Type := (Nat → Nat) × (Nat → Nat) × Value
def SE (ro : Ro) (A : Nat → Prop) (U : State) (H : Heap) : Prop :=
  (∀ i, i < nS → vk_S 1 [lenS i] [bytS i] (fun _ => ro.1 i) (fun _ => ro.2.1 i) A U H) ∧ va_Z "java/lang/String" "COMPACT_STRINGS" "Z" (.int 1) A U H ∧ va_Z "jdk/internal/util/Preconditions" "SIOOBE_FORMATTER" "Ljava/util/function/BiFunction;" ro.2.2 A U H
def SR (ro : Ro) (U : State) : Prop := (∀ q ∈ refsS, vk_R q.1 q.2.1 q.2.2.1 (ro.1 q.2.2.2) U) ∧ (ro.2.2 = .null ∨ ∃ a, ro.2.2 = .ref a) ∧ va_Nw (.declares ⟨"BackVillage$TextReader", "readLine", "()Z"⟩) U
def rok (ro : Ro) (A : Nat → Prop) (U : State) : Prop := SE ro A U U.heap ∧ SR ro U
theorem SE.kept {ro : Ro} {A : Nat → Prop} {U : State} {H H1 : Heap} (h : SE ro A U H) (hq : ∀ a : Nat, a < H.size → ¬ A a → H1[a]? = H[a]?) : SE ro A U H1 := ⟨fun i hi => (h.1 i hi).kept hq, h.2.1.kept hq, h.2.2.kept hq⟩
theorem SE.narrow {ro : Ro} {A B : Nat → Prop} {U : State} {H : Heap} (h : SE ro A U H) (hAB : ∀ q, B q → A q) : SE ro B U H := ⟨fun i hi => (h.1 i hi).narrow hAB, h.2.1.narrow hAB, h.2.2.narrow hAB⟩
theorem SE.moved {ro : Ro} {A : Nat → Prop} {u U : State} {H : Heap} (hvm : u.vm.Alike U.vm) (h : SE ro A u H) : SE ro A U H := ⟨fun i hi => (h.1 i hi).moved hvm, h.2.1.moved hvm, h.2.2.moved hvm⟩
theorem rok.kept {ro : Ro} {A B : Nat → Prop} {s U : State} {H : Heap} {locs : List Loc} (h : rok ro A s) (hS : va_S A s.heap H locs) (hB : ∀ q, B q → A q) (hU : U.heap = H) (hW : s.WarmedH U.vm) : rok ro B U := by
  subst hU
  exact ⟨((h.1.kept hS.2.1).narrow hB).moved hW.alike, fun q hq => (h.2.1 q hq).warm hW, h.2.2.1, va_Nw.warmD hW h.2.2.2⟩
def Cx (p : Program) (s : State) (m : MethodId) (args : Array Value) (c : Code) (own : String) (cc : ByteArray) (nL : Nat) (D : va_G) (tc : Nat → ClassId) (ro : Ro) (A : Nat → Prop) : Prop :=
  CallFix p m c cc nL s args GW own ∧ va_K D cls (tys tc) s ∧ rok ro A s
section ROWS
variable {p : Program} {l : Launch} {e : Env} {R : Room} {s : State} {m : MethodId} {args : Array Value} {below : List Frame} {meth : Method} {c : Code} {H : Heap} {locs : List Loc} {cells slots : Nat} {Q : State → Prop}
variable {cc : ByteArray} {pc nL : Nat} {ls : Array Slot} {rest : List Value} {D : va_G} {tc : Nat → ClassId} {ro : Ro} {fa : Fa} {fe : Fe} {A : Nat → Prop} {H0 : Heap} {μ : Mm} {own : String} {k : Ky} {a : Nat}
theorem r_get (C : Cx p s m args c own cc nL D tc ro A) (hW : Wd D fa fe A H0 μ H locs) {R0 ref : String} {T : u_T} {N ci f index : Nat} (hc : cls[ci]? = some (R0, T, N)) (hf : f < N) (hin : ∀ w ∈ u_ws R0 T N, w ∈ GW)
    (hl : Cond.fieldLink own index ref (T f).2.1 (T f).2.2.1 ∈ GW) (hs : ref = (T f).1 ∨ Cond.sameField ref (T f).1 (T f).2.1 (T f).2.2.1 ∈ GW) (ha : fa k = some a) {fs : List Value} (he : fe k (μ k) = .inr (ci, fs)) {v : Value} (hv : fs[f]? = some v) (hdg : decode cc pc = .ok (.getfield index, 3))
    (kk : W p l e R s m args below meth c H locs cells slots Q (F0 m (pc + 3) ls (v :: rest))) : W p l e R s m args below meth c H locs cells slots Q (F0 m pc ls (.ref a :: rest)) := by
  obtain ⟨⟨hx, hb, hml, hown, hts⟩, hK, hro⟩ := C
  obtain ⟨⟨ws, h1, hP, hD⟩, hS, hA, hZ, hi⟩ := hW
  obtain ⟨q0, hq⟩ := h1.get ha
  rw [he] at hq
  exact va_get (ws := ws) hx hb hts hin hown hK hP q0 hq hc f hf (hts _ hl) (fun x h => by
    rcases hs with rfl | hs
    · exact h
    · exact u_same (hts _ hs) x h) hv hdg kk
theorem r_put (C : Cx p s m args c own cc nL D tc ro A) (hW : Wd D fa fe A H0 μ H locs) {R0 ref : String} {T : u_T} {N ci f index : Nat} (hc : cls[ci]? = some (R0, T, N)) (hf : f < N) (hin : ∀ w ∈ u_ws R0 T N, w ∈ GW)
    {ty0 : Nat → FieldType} (hty : ∀ k, k < N → parseFieldDescriptor (T k).2.2.1 = some (ty0 k)) (hnm : ∀ a, a < N → ∀ b, b < N → a ≠ b → (T a).2.1 ≠ (T b).2.1)
    (hl : Cond.fieldLink own index ref (T f).2.1 (T f).2.2.1 ∈ GW) (hs : ref = (T f).1 ∨ Cond.sameField ref (T f).1 (T f).2.1 (T f).2.2.1 ∈ GW) (hfin : (T f).2.2.2 = false) {ty : FieldType} (hd : parseFieldDescriptor (T f).2.2.1 = some ty)
    (ha : fa k = some a) {fs : List Value} (he : fe k (μ k) = .inr (ci, fs)) (hlt : f < fs.length) {v : Int32} (hn : narrow ty (.int v) = .int v) (hfit : fits ty (.int v) = true) (he' : fe k (upd (μ k) f v) = .inr (ci, fs.set f (.int v))) (hdg : decode cc pc = .ok (.putfield index, 3))
    (kk : ∀ (H1 : Heap) (locs1 : List Loc), Wd D fa fe A H0 (mst μ k f v) H1 locs1 → W p l e R s m args below meth c H1 locs1 cells slots Q (F0 m (pc + 3) ls rest)) : W p l e R s m args below meth c H locs cells slots Q (F0 m pc ls (.int v :: .ref a :: rest)) := by
  obtain ⟨⟨hx, hb, hml, hown, hts⟩, hK, hro⟩ := C
  obtain ⟨⟨ws, h1, hP, hD⟩, hS, hA, hZ, hi⟩ := hW
  obtain ⟨q0, hq⟩ := h1.get ha
  have hq2 := hq
  rw [he] at hq2
  refine va_put (ws := ws) hx hb hts hin ty0 hty hnm hown hK hP (h1.A hD hA) hS q0 hq2 hc f hf (hts _ hl) (fun x h => by
    rcases hs with rfl | hs
    · exact h
    · exact u_same (hts _ hs) x h) hfin hd hn hfit hlt hdg (fun H1 locs1 hP1 hD1 hS1 => kk H1 locs1 ⟨⟨_, ?_, hP1, hD1.weaken (fun _ _ _ _ => trivial)⟩, hS1, hA, hZ, hi⟩)
  exact h1.set hi hD ha hq (by rw [mst_self]; exact he') (fun j hj => by rw [mst_ne hj])
theorem r_putR (C : Cx p s m args c own cc nL D tc ro A) (hW : Wd D fa fe A H0 μ H locs) {R0 ref : String} {T : u_T} {N ci f index : Nat} (hc : cls[ci]? = some (R0, T, N)) (hf : f < N) (hin : ∀ w ∈ u_ws R0 T N, w ∈ GW)
    {ty0 : Nat → FieldType} (hty : ∀ k, k < N → parseFieldDescriptor (T k).2.2.1 = some (ty0 k)) (hnm : ∀ a, a < N → ∀ b, b < N → a ≠ b → (T a).2.1 ≠ (T b).2.1)
    (hl : Cond.fieldLink own index ref (T f).2.1 (T f).2.2.1 ∈ GW) (hs : ref = (T f).1 ∨ Cond.sameField ref (T f).1 (T f).2.1 (T f).2.2.1 ∈ GW) (hfin : (T f).2.2.2 = false) {ty : FieldType} (hd : parseFieldDescriptor (T f).2.2.1 = some ty)
    (ha : fa k = some a) {fs : List Value} (he : fe k (μ k) = .inr (ci, fs)) (hlt : f < fs.length) {w : Int32} {v : Value} (hn : narrow ty v = v) (hfit : fits ty v = true) (he' : fe k (upd (μ k) f w) = .inr (ci, fs.set f v)) (hdg : decode cc pc = .ok (.putfield index, 3))
    (kk : ∀ (H1 : Heap) (locs1 : List Loc), Wd D fa fe A H0 (mst μ k f w) H1 locs1 → W p l e R s m args below meth c H1 locs1 cells slots Q (F0 m (pc + 3) ls rest)) : W p l e R s m args below meth c H locs cells slots Q (F0 m pc ls (v :: .ref a :: rest)) := by
  obtain ⟨⟨hx, hb, hml, hown, hts⟩, hK, hro⟩ := C
  obtain ⟨⟨ws, h1, hP, hD⟩, hS, hA, hZ, hi⟩ := hW
  obtain ⟨q0, hq⟩ := h1.get ha
  have hq2 := hq
  rw [he] at hq2
  refine va_put (ws := ws) hx hb hts hin ty0 hty hnm hown hK hP (h1.A hD hA) hS q0 hq2 hc f hf (hts _ hl) (fun x h => by
    rcases hs with rfl | hs
    · exact h
    · exact u_same (hts _ hs) x h) hfin hd hn hfit hlt hdg (fun H1 locs1 hP1 hD1 hS1 => kk H1 locs1 ⟨⟨_, ?_, hP1, hD1.weaken (fun _ _ _ _ => trivial)⟩, hS1, hA, hZ, hi⟩)
  exact h1.set hi hD ha hq (by rw [mst_self]; exact he') (fun j hj => by rw [mst_ne hj])
theorem r_iald (C : Cx p s m args c own cc nL D tc ro A) (hW : Wd D fa fe A H0 μ H locs) {n : Nat} (ha : fa k = some a) (he : fe k (μ k) = .inl (tc 0, n, .inl (μ k))) {i : Int32} (hin : vp_in i n) (hdg : decode cc pc = .ok (.iaload, 1))
    (kk : W p l e R s m args below meth c H locs cells slots Q (F0 m (pc + 1) ls (.int (μ k i.toNatClampNeg) :: rest))) : W p l e R s m args below meth c H locs cells slots Q (F0 m pc ls (.int i :: .ref a :: rest)) := by
  obtain ⟨⟨hx, hb, hml, hown, hts⟩, hK, hro⟩ := C
  obtain ⟨⟨ws, h1, hP, hD⟩, hS, hA, hZ, hi⟩ := hW
  obtain ⟨q0, hq⟩ := h1.get ha
  rw [he] at hq
  exact va_iald (ws := ws) hx hb hK hP q0 0 hq rfl hin hdg kk
theorem r_bald (C : Cx p s m args c own cc nL D tc ro A) (hW : Wd D fa fe A H0 μ H locs) {n : Nat} (ha : fa k = some a) (he : fe k (μ k) = .inl (tc 1, n, .inl (μ k))) {i : Int32} (hin : vp_in i n) (hdg : decode cc pc = .ok (.baload, 1))
    (kk : W p l e R s m args below meth c H locs cells slots Q (F0 m (pc + 1) ls (.int (μ k i.toNatClampNeg) :: rest))) : W p l e R s m args below meth c H locs cells slots Q (F0 m pc ls (.int i :: .ref a :: rest)) := by
  obtain ⟨⟨hx, hb, hml, hown, hts⟩, hK, hro⟩ := C
  obtain ⟨⟨ws, h1, hP, hD⟩, hS, hA, hZ, hi⟩ := hW
  obtain ⟨q0, hq⟩ := h1.get ha
  rw [he] at hq
  exact va_bald (ws := ws) hx hb hK hP q0 1 hq rfl hin hdg kk
theorem r_zald (C : Cx p s m args c own cc nL D tc ro A) (hW : Wd D fa fe A H0 μ H locs) {n : Nat} (ha : fa k = some a) (he : fe k (μ k) = .inl (tc 2, n, .inl (μ k))) {i : Int32} (hin : vp_in i n) (hdg : decode cc pc = .ok (.baload, 1))
    (kk : W p l e R s m args below meth c H locs cells slots Q (F0 m (pc + 1) ls (.int (μ k i.toNatClampNeg) :: rest))) : W p l e R s m args below meth c H locs cells slots Q (F0 m pc ls (.int i :: .ref a :: rest)) := by
  obtain ⟨⟨hx, hb, hml, hown, hts⟩, hK, hro⟩ := C
  obtain ⟨⟨ws, h1, hP, hD⟩, hS, hA, hZ, hi⟩ := hW
  obtain ⟨q0, hq⟩ := h1.get ha
  rw [he] at hq
  exact va_zald (ws := ws) hx hb hK hP q0 2 hq rfl hin hdg kk
theorem r_alen (C : Cx p s m args c own cc nL D tc ro A) (hW : Wd D fa fe A H0 μ H locs) {cA : ClassId} {x : vp_A} (ha : fa k = some a) (he : fe k (μ k) = .inl (cA, x)) {t : Nat} {ty : FieldType} (ht : (tys tc)[t]? = some (cA, ty)) {v : Int32} (hv : Int32.ofNat x.1 = v) (hdg : decode cc pc = .ok (.arraylength, 1))
    (kk : W p l e R s m args below meth c H locs cells slots Q (F0 m (pc + 1) ls (.int v :: rest))) : W p l e R s m args below meth c H locs cells slots Q (F0 m pc ls (.ref a :: rest)) := by
  obtain ⟨⟨hx, hb, hml, hown, hts⟩, hK, hro⟩ := C
  obtain ⟨⟨ws, h1, hP, hD⟩, hS, hA, hZ, hi⟩ := hW
  obtain ⟨q0, hq⟩ := h1.get ha
  rw [he] at hq
  exact va_alen (ws := ws) hx hb hK hP q0 t hq ht hv hdg kk
theorem r_iast (C : Cx p s m args c own cc nL D tc ro A) (hW : Wd D fa fe A H0 μ H locs) {n : Nat} (ha : fa k = some a) (he : ∀ r, fe k r = .inl (tc 0, n, .inl r)) {i x : Int32} (hin : vp_in i n) (hdg : decode cc pc = .ok (.iastore, 1))
    (kk : ∀ (H1 : Heap) (locs1 : List Loc), Wd D fa fe A H0 (mst μ k i.toNatClampNeg x) H1 locs1 → W p l e R s m args below meth c H1 locs1 cells slots Q (F0 m (pc + 1) ls rest)) : W p l e R s m args below meth c H locs cells slots Q (F0 m pc ls (.int x :: .int i :: .ref a :: rest)) := by
  obtain ⟨⟨hx, hb, hml, hown, hts⟩, hK, hro⟩ := C
  obtain ⟨⟨ws, h1, hP, hD⟩, hS, hA, hZ, hi⟩ := hW
  obtain ⟨q0, hq⟩ := h1.get ha
  have hq2 := hq
  rw [he] at hq2
  refine va_iast (ws := ws) hx hb hK hP (h1.A hD hA) hS q0 0 hq2 rfl hin hdg (fun H1 locs1 hP1 hD1 hS1 => kk H1 locs1 ⟨⟨_, ?_, hP1, hD1.weaken (fun _ _ _ _ => trivial)⟩, hS1, hA, hZ, hi⟩)
  exact h1.set hi hD ha hq (by rw [mst_self, he]) (fun j hj => by rw [mst_ne hj])
theorem r_bast (C : Cx p s m args c own cc nL D tc ro A) (hW : Wd D fa fe A H0 μ H locs) {n : Nat} (ha : fa k = some a) (he : ∀ r, fe k r = .inl (tc 1, n, .inl r)) {i x : Int32} (hin : vp_in i n) (hdg : decode cc pc = .ok (.bastore, 1))
    (kk : ∀ (H1 : Heap) (locs1 : List Loc), Wd D fa fe A H0 (mst μ k i.toNatClampNeg (vp_nar .byte x)) H1 locs1 → W p l e R s m args below meth c H1 locs1 cells slots Q (F0 m (pc + 1) ls rest)) : W p l e R s m args below meth c H locs cells slots Q (F0 m pc ls (.int x :: .int i :: .ref a :: rest)) := by
  obtain ⟨⟨hx, hb, hml, hown, hts⟩, hK, hro⟩ := C
  obtain ⟨⟨ws, h1, hP, hD⟩, hS, hA, hZ, hi⟩ := hW
  obtain ⟨q0, hq⟩ := h1.get ha
  have hq2 := hq
  rw [he] at hq2
  refine va_bast (ws := ws) hx hb hK hP (h1.A hD hA) hS q0 1 hq2 rfl hin hdg (fun H1 locs1 hP1 hD1 hS1 => kk H1 locs1 ⟨⟨_, ?_, hP1, hD1.weaken (fun _ _ _ _ => trivial)⟩, hS1, hA, hZ, hi⟩)
  exact h1.set hi hD ha hq (by rw [mst_self, he]) (fun j hj => by rw [mst_ne hj])
theorem r_zast (C : Cx p s m args c own cc nL D tc ro A) (hW : Wd D fa fe A H0 μ H locs) {n : Nat} (ha : fa k = some a) (he : ∀ r, fe k r = .inl (tc 2, n, .inl r)) {i x : Int32} (hin : vp_in i n) (hdg : decode cc pc = .ok (.bastore, 1))
    (kk : ∀ (H1 : Heap) (locs1 : List Loc), Wd D fa fe A H0 (mst μ k i.toNatClampNeg (vp_nar .boolean x)) H1 locs1 → W p l e R s m args below meth c H1 locs1 cells slots Q (F0 m (pc + 1) ls rest)) : W p l e R s m args below meth c H locs cells slots Q (F0 m pc ls (.int x :: .int i :: .ref a :: rest)) := by
  obtain ⟨⟨hx, hb, hml, hown, hts⟩, hK, hro⟩ := C
  obtain ⟨⟨ws, h1, hP, hD⟩, hS, hA, hZ, hi⟩ := hW
  obtain ⟨q0, hq⟩ := h1.get ha
  have hq2 := hq
  rw [he] at hq2
  refine va_zast (ws := ws) hx hb hK hP (h1.A hD hA) hS q0 2 hq2 rfl hin hdg (fun H1 locs1 hP1 hD1 hS1 => kk H1 locs1 ⟨⟨_, ?_, hP1, hD1.weaken (fun _ _ _ _ => trivial)⟩, hS1, hA, hZ, hi⟩)
  exact h1.set hi hD ha hq (by rw [mst_self, he]) (fun j hj => by rw [mst_ne hj])
end ROWS
-- a method's contract: from a memory to a memory, no new cells
def Ctq (D : va_G) (fa : Fa) (fe : Fe) (rv : Option Value) (μ' : Mm) (A : Nat → Prop) : Array Value → State → Outcome → State → Prop := fun _ st oc t => oc = .returned rv ∧ wd D fa fe μ' t.heap ∧ va_F A st t
def Ctp (D : va_G) (tc : Nat → ClassId) (ro : Ro) (fa : Fa) (fe : Fe) (μ : Mm) (sz : Nat) (U : State) : Prop := U.heap.size = sz ∧ wd D fa fe μ U.heap ∧ va_K D cls (tys tc) U ∧ inj fa ∧ rok ro (AF fa sz) U
def Ct (l : Launch) (D : va_G) (tc : Nat → ClassId) (ro : Ro) (fa : Fa) (fe : Fe) (y : MethodName) (cc : ByteArray) (maxL : Nat) (ret : Option FieldType) (rm : Room) (av : List Value) (μ : Mm) (rv : Option Value) (μ' : Mm) : Prop :=
  ∀ sz, Met l y (wy y cc maxL ret) rm (va_Pc av (Ctp D tc ro fa fe μ sz)) (Ctq D fa fe rv μ' (AF fa sz)) 0 0 (AF fa sz)
def rmq (f n : Nat) : Room := { frames := f, cells := 0, slots := 0, locals := n }
theorem Ct.of {l : Launch} {D : va_G} {tc : Nat → ClassId} {ro : Ro} {fa : Fa} {fe : Fe} {y : MethodName} {cc : ByteArray} {maxL : Nat} {ret : Option FieldType} {rm : Room} {av : List Value} {μ : Mm} {rv : Option Value} {μ' : Mm}
    (hy : plainName y.cls = true) (hlen : (lg_sl av).length ≤ maxL)
    (body : ∀ (p : Program) (e : Env) (s : State) (m : MethodId) (args : Array Value) (below : List Frame) (meth : Method) (c : Code) (A : Nat → Prop), Cx p s m args c y.cls cc maxL D tc ro A → meth.sig.returnType = ret → meth.locks = false → Wd D fa fe A s.heap μ s.heap [] →
      ∀ ls : Array Slot, lv_has ls maxL (lv_args 0 av) → W p l e rm s m args below meth c s.heap [] 0 0 (MQ below (Ctq D fa fe rv μ' A) args s 0 0 A) (F0 m 0 ls [])) :
    Ct l D tc ro fa fe y cc maxL ret rm av μ rv μ' := by
  intro sz
  refine Met.ofW (cc := cc) (maxL := maxL) (ret := ret) hy rfl ?_
  intro p e s m args below meth c s₁ B hml hv
  obtain ⟨rfl, hsz, hw, hK, hi, hro⟩ := hv
  subst hsz
  have hts := atoms_spec (ws := wy y cc maxL ret) B.pre
  have hl := lv_entry av (n := maxL) hlen
  rw [lg_entry_eq]
  exact body p e s m _ below meth c _ ⟨⟨B.exec, B.bytes, hml, findClass_of_methodNamed B.named, fun w h => hts w (List.mem_cons_of_mem _ h)⟩, hK, hro⟩ B.returns B.notSynchronized ⟨hw, va_S.rf, fun k a h => Or.inl ⟨k, h⟩, fun q h => Or.inr h, hi⟩ _ hl
section ENDS
variable {p : Program} {l : Launch} {e : Env} {R : Room} {s : State} {m : MethodId} {args : Array Value} {below : List Frame} {meth : Method} {c : Code} {H : Heap} {locs : List Loc}
variable {cc : ByteArray} {pc nL : Nat} {ls : Array Slot} {D : va_G} {tc : Nat → ClassId} {ro : Ro} {fa : Fa} {fe : Fe} {A : Nat → Prop} {μ μ' : Mm} {own : String} {rv : Option Value}
theorem r_iret (C : Cx p s m args c own cc nL D tc ro A) (hr : meth.sig.returnType = some .int) (hk : meth.locks = false) (hW : Wd D fa fe A s.heap μ H locs) {v : Int32} (hv : rv = some (.int v)) (hμ : μ' = μ) (hdg : decode cc pc = .ok (.ireturn, 1)) :
    W p l e R s m args below meth c H locs 0 0 (MQ below (Ctq D fa fe rv μ' A) args s 0 0 A) (F0 m pc ls [.int v]) := by
  obtain ⟨⟨hx, hb, -, -, -⟩, -, -⟩ := C
  subst hv; subst hμ
  exact W.iret hx hb hr (fun t ht _ => ⟨rfl, by rw [ht]; exact hW.1, hW.2.1.F ht⟩) hW.2.1.2.2 hdg hk
theorem r_zret (C : Cx p s m args c own cc nL D tc ro A) (hr : meth.sig.returnType = some .boolean) (hk : meth.locks = false) (hW : Wd D fa fe A s.heap μ H locs) {v : Int32} (hn : v = 0 ∨ v = 1) (hv : rv = some (.int v)) (hμ : μ' = μ) (hdg : decode cc pc = .ok (.ireturn, 1)) :
    W p l e R s m args below meth c H locs 0 0 (MQ below (Ctq D fa fe rv μ' A) args s 0 0 A) (F0 m pc ls [.int v]) := by
  obtain ⟨⟨hx, hb, -, -, -⟩, -, -⟩ := C
  subst hv; subst hμ
  exact W.zret hx hb hr (by rcases hn with rfl | rfl <;> rfl) (fun t ht _ => ⟨rfl, by rw [ht]; exact hW.1, hW.2.1.F ht⟩) hW.2.1.2.2 hdg hk
theorem r_vret (C : Cx p s m args c own cc nL D tc ro A) (hr : meth.sig.returnType = none) (hk : meth.locks = false) (hW : Wd D fa fe A s.heap μ H locs) (hv : rv = none) (hμ : μ' = μ) (hdg : decode cc pc = .ok (.return_, 1)) :
    W p l e R s m args below meth c H locs 0 0 (MQ below (Ctq D fa fe rv μ' A) args s 0 0 A) (F0 m pc ls []) := by
  obtain ⟨⟨hx, hb, -, -, -⟩, -, -⟩ := C
  subst hv; subst hμ
  exact W.vret hx hb hr (fun t ht _ => ⟨rfl, by rw [ht]; exact hW.1, hW.2.1.F ht⟩) hW.2.1.2.2 hdg hk
end ENDS
-- calls
def LkV (own : String) (index : Nat) (C : String) (y : MethodName) (cc : ByteArray) (maxL : Nat) (ret : Option FieldType) (n : Nat) : Prop :=
  (Cond.methodLink own index y ∈ GW ∧ Cond.instanceMethod y ∈ GW ∧ Cond.selects C y y ∈ GW ∧ Cond.initialized C ∈ GW ∧ Cond.code y cc maxL ret ∈ GW) ∧ (y.cls = C ∧ y.cls ≠ "java/lang/invoke/MethodHandle" ∧ y.cls ≠ "java/lang/invoke/VarHandle" ∧ (parseMethodDescriptor y.desc).map (fun d => d.parameters.length) = some n)
def LkS (own : String) (index : Nat) (y : MethodName) (cc : ByteArray) (maxL : Nat) (ret : Option FieldType) (n : Nat) : Prop :=
  (Cond.methodLink own index y ∈ GW ∧ Cond.static y ∈ GW ∧ Cond.initialized y.cls ∈ GW ∧ Cond.code y cc maxL ret ∈ GW) ∧ (y.cls ≠ "java/lang/invoke/MethodHandle" ∧ y.cls ≠ "java/lang/invoke/VarHandle" ∧ (parseMethodDescriptor y.desc).map (fun d => d.parameters.length) = some n)
theorem Ctp.blind {D : va_G} {tc : Nat → ClassId} {ro : Ro} {fa : Fa} {fe : Fe} {μ : Mm} {sz : Nat} {av : List Value} : FrameBlind (va_Pc av (Ctp D tc ro fa fe μ sz)) := by
  intro a U g mk q
  obtain ⟨q0, q1, q2, q3, q4, q5⟩ := q
  exact ⟨q0, q1, q2, va_K.moved (u := U) (U := U.calling g mk a) (Vm.Alike.refl U.vm) q3, q4, ⟨q5.1.moved (Vm.Alike.refl U.vm), fun z hz => vk_R.same (u := U) rfl (q5.2.1 z hz), q5.2.2.1, va_tabs (u := U) rfl rfl q5.2.2.2⟩⟩
theorem Wd.sub {D : va_G} {fa : Fa} {fe : Fe} {A : Nat → Prop} {H0 H : Heap} {μ : Mm} {locs : List Loc} (hW : Wd D fa fe A H0 μ H locs) : ∀ q, AF fa H.size q → A q := by
  rintro q (⟨k, h⟩ | h)
  · exact hW.2.2.1 k q h
  · exact hW.2.2.2.1 q (Nat.le_trans hW.2.1.1 h)
theorem Wd.after {D : va_G} {fa : Fa} {fe : Fe} {A : Nat → Prop} {H0 H H1 : Heap} {μ μ' : Mm} {locs L : List Loc} (hW : Wd D fa fe A H0 μ H locs) (h1 : wd D fa fe μ' H1) (hz : H.size ≤ H1.size) (hk : ∀ q : Nat, q < H.size → ¬ AF fa H.size q → H1[q]? = H[q]?) (hL : ∀ q ∈ L, AF fa H.size q.base) : Wd D fa fe A H0 μ' H1 (locs ++ L) := by
  have hAA := hW.sub
  refine ⟨h1, ⟨Nat.le_trans hW.2.1.1 hz, fun q h2 h3 => ?_, fun q hq => ?_⟩, hW.2.2⟩
  · rw [hk q (Nat.lt_of_lt_of_le h2 hW.2.1.1) (fun z => h3 (hAA q z))]
    exact hW.2.1.2.1 q h2 h3
  · rcases List.mem_append.mp hq with h | h
    · exact hW.2.1.2.2 q h
    · exact hAA _ (hL q h)
section CALLS
variable {p : Program} {l : Launch} {e : Env} {R : Room} {s : State} {m : MethodId} {args : Array Value} {below : List Frame} {meth : Method} {c : Code} {H : Heap} {locs : List Loc} {cells slots : Nat} {Q : State → Prop}
variable {cc : ByteArray} {pc nL : Nat} {ls : Array Slot} {rest st : List Value} {D : va_G} {tc : Nat → ClassId} {ro : Ro} {fa : Fa} {fe : Fe} {A : Nat → Prop} {μ μ' : Mm} {own : String} {k : Ky} {b : Nat}
variable {C0 : String} {index n maxL : Nat} {y : MethodName} {bytes : ByteArray} {ret : Option FieldType} {rm : Room} {As : List Value} {rv : Option Value} {lv : List (Nat × Value)}
theorem r_run {mc ms : Nat} {Qa : State → Outcome → State → Prop} {free : Addr → Prop} {g : JFrame} (h : va_Run p l e R s m args below meth c H locs cells slots mc ms g rest Qa free)
    (kk : ∀ (v : Option Value) (st₀ t : State) (H1 : Heap) (L : List Loc), st₀.heap = H → t.heap = H1 → (∀ q ∈ L, free q.base) → Qa st₀ (.returned v) t → W p l e R s m args below meth c H1 (locs ++ L) (cells + mc) (slots + ms) Q { g with pc := g.pc + 3, stack := v.toList ++ rest }) : W p l e R s m args below meth c H locs cells slots Q g := by
  intro T hT X
  obtain ⟨v, st₀, t, T', L, h0, X', hL, e1, e2, hq, st⟩ := h T hT X
  obtain ⟨t2, a1, b1⟩ := kk v st₀ t T'.heap L h0 e1.symm hL hq T' rfl X'
  exact ⟨t2, st t2 a1, b1⟩
theorem r_callVx (C : Cx p s m args c own cc nL D tc ro A) (hW : Wd D fa fe A s.heap μ H locs) (hl : lv_has ls nL lv) (K : LkV own index C0 y bytes maxL ret n) (hM : Ct l D tc ro fa fe y bytes maxL ret rm (.ref b :: As) μ rv μ') (hrm : rm.cells = 0 ∧ rm.slots = 0)
    (hR : rm.frames + 1 ≤ R.frames ∧ 8 + (maxL + 11) + rm.locals ≤ R.locals) (hrcv : ∃ cell : Cell, H[b]? = some cell ∧ cell.vm.isStatics = false ∧ s.vm.findClass C0 = some cell.cls)
    (hn : As.length = n) (hst : st = As.reverse ++ .ref b :: rest) (hw : (rest.map fun v => v.category).sum ≤ 8) (hdg : decode cc pc = .ok (.invokevirtual index, 3)) (hf : cells ≤ R.cells ∧ slots ≤ R.slots)
    (kk : ∀ (H1 : Heap) (locs1 : List Loc), Wd D fa fe A s.heap μ' H1 locs1 → W p l e R s m args below meth c H1 locs1 cells slots Q (F0 m (pc + 3) ls (rv.toList ++ rest))) : W p l e R s m args below meth c H locs cells slots Q (F0 m pc ls st) := by
  have C' := C
  obtain ⟨⟨hx, hb, hml, hown, hts⟩, hK, hro⟩ := C
  obtain ⟨⟨k1, k2, k3, k4, k5⟩, k6⟩ := K
  have hG : GoodIn GW (wsV own index C0 y (wy y bytes maxL ret)) := by
    intro w hw
    rcases List.mem_append.mp hw with hw | hw
    · simp only [List.mem_cons, List.not_mem_nil, or_false] at hw
      rcases hw with rfl | rfl | rfl | rfl
      · exact ⟨k1, gw_good k1⟩
      · exact ⟨k2, gw_good k2⟩
      · exact ⟨k3, gw_good k3⟩
      · exact ⟨k4, gw_good k4⟩
    · exact gw_wy k5 w hw
  subst hst
  refine r_run (va_runV C'.1 (hM H.size) (cwV n hts hG rfl hrm.1 hrm.2 k6 hR) ⟨Ctp.blind, hrcv, fun U hU hWm => ⟨rfl, by rw [hU], by rw [hU]; exact hW.1, va_K.moved hWm.alike hK, hW.2.2.2.2, hro.kept hW.2.1 hW.sub hU hWm⟩⟩ rfl hn hl.1 rfl (lv_room hw) hdg hf) ?_
  intro v st₀ t H1 L e0 e1 hL hq2
  obtain ⟨z1, z2, z3⟩ := hq2
  cases z1
  subst e1
  subst e0
  exact kk _ _ (hW.after z2 z3.1 z3.2 hL)
theorem r_callV (C : Cx p s m args c own cc nL D tc ro A) (hW : Wd D fa fe A s.heap μ H locs) (hl : lv_has ls nL lv) (K : LkV own index C0 y bytes maxL ret n) (hM : Ct l D tc ro fa fe y bytes maxL ret rm (.ref b :: As) μ rv μ') (hrm : rm.cells = 0 ∧ rm.slots = 0)
    (hR : rm.frames + 1 ≤ R.frames ∧ 8 + (maxL + 11) + rm.locals ≤ R.locals) {T : u_T} {N ci : Nat} (hc : cls[ci]? = some (C0, T, N)) (ha : fa k = some b) {fs : List Value} (he : fe k (μ k) = .inr (ci, fs))
    (hn : As.length = n) (hst : st = As.reverse ++ .ref b :: rest) (hw : (rest.map fun v => v.category).sum ≤ 8) (hdg : decode cc pc = .ok (.invokevirtual index, 3)) (hf : cells ≤ R.cells ∧ slots ≤ R.slots)
    (kk : ∀ (H1 : Heap) (locs1 : List Loc), Wd D fa fe A s.heap μ' H1 locs1 → W p l e R s m args below meth c H1 locs1 cells slots Q (F0 m (pc + 3) ls (rv.toList ++ rest))) : W p l e R s m args below meth c H locs cells slots Q (F0 m pc ls st) := by
  refine r_callVx C hW hl K hM hrm hR ?_ hn hst hw hdg hf kk
  obtain ⟨-, hK, -⟩ := C
  obtain ⟨⟨ws, h1, hP, hD⟩, hS, hA, hZ, hi⟩ := hW
  obtain ⟨q0, hq⟩ := h1.get ha
  rw [he] at hq
  exact va_recv hK hP hc hq
theorem r_callS (C : Cx p s m args c own cc nL D tc ro A) (hW : Wd D fa fe A s.heap μ H locs) (hl : lv_has ls nL lv) (K : LkS own index y bytes maxL ret n) (hM : Ct l D tc ro fa fe y bytes maxL ret rm As μ rv μ') (hrm : rm.cells = 0 ∧ rm.slots = 0)
    (hR : rm.frames + 1 ≤ R.frames ∧ 8 + (maxL + 11) + rm.locals ≤ R.locals) (hn : As.length = n) (hst : st = As.reverse ++ rest) (hw : (rest.map fun v => v.category).sum ≤ 8) (hdg : decode cc pc = .ok (.invokestatic index, 3)) (hf : cells ≤ R.cells ∧ slots ≤ R.slots)
    (kk : ∀ (H1 : Heap) (locs1 : List Loc), Wd D fa fe A s.heap μ' H1 locs1 → W p l e R s m args below meth c H1 locs1 cells slots Q (F0 m (pc + 3) ls (rv.toList ++ rest))) : W p l e R s m args below meth c H locs cells slots Q (F0 m pc ls st) := by
  have C' := C
  obtain ⟨⟨hx, hb, hml, hown, hts⟩, hK, hro⟩ := C
  obtain ⟨⟨k1, k2, k4, k5⟩, k6⟩ := K
  subst hst
  refine r_run (va_runS C'.1 (hM H.size) ⟨callB_of n hts (gw_wy k5) rfl hrm.1 hrm.2 (hts _ k4) (hts _ k1) k6 hR, hts _ k2⟩ ⟨Ctp.blind, fun U hU hWm => ⟨rfl, by rw [hU], by rw [hU]; exact hW.1, va_K.moved hWm.alike hK, hW.2.2.2.2, hro.kept hW.2.1 hW.sub hU hWm⟩⟩ rfl hn hl.1 rfl (lv_room hw) hdg hf) ?_
  intro v st₀ t H1 L e0 e1 hL hq2
  obtain ⟨z1, z2, z3⟩ := hq2
  cases z1
  subst e1
  subst e0
  exact kk _ _ (hW.after z2 z3.1 z3.2 hL)
end CALLS
section MATHS
variable {p : Program} {l : Launch} {e : Env} {R : Room} {s : State} {m : MethodId} {args : Array Value} {below : List Frame} {meth : Method} {c : Code} {H : Heap} {locs : List Loc} {cells slots : Nat} {Q : State → Prop}
variable {cc : ByteArray} {pc nL : Nat} {ls : Array Slot} {rest : List Value} {D : va_G} {tc : Nat → ClassId} {ro : Ro} {A : Nat → Prop} {own : String} {lv : List (Nat × Value)} {index : Nat}
theorem r_mmax (C : Cx p s m args c own cc nL D tc ro A) (hl : lv_has ls nL lv) (k1 : Cond.methodLink own index Lib.Math.max.name ∈ GW) (k2 : Cond.static Lib.Math.max.name ∈ GW) (k3 : Cond.initialized "java/lang/Math" ∈ GW) (k4 : Cond.code Lib.Math.max.name Lib.Math.max.code 2 (some .int) ∈ GW)
    (h1 : 1 ≤ R.frames) (h2 : (rest.map fun v => v.category).sum + 13 ≤ R.locals) (hf : cells ≤ R.cells ∧ slots ≤ R.slots) {x y : Int32} (hdg : decode cc pc = .ok (.invokestatic index, 3))
    (kk : W p l e R s m args below meth c H locs cells slots Q (F0 m (pc + 3) ls (.int (if x < y then y else x) :: rest))) : W p l e R s m args below meth c H locs cells slots Q (F0 m pc ls (.int y :: .int x :: rest)) := by
  obtain ⟨⟨hx, hb, hml, hown, hts⟩, hK, hro⟩ := C
  exact va_mmax hx hb (hml.trans hl.1.symm) hown (hts _ k1) (hts _ k2) (hts _ k3) (hts _ k4) h1 h2 hf.1 hf.2 hdg kk
theorem r_mmin (C : Cx p s m args c own cc nL D tc ro A) (hl : lv_has ls nL lv) (k1 : Cond.methodLink own index Lib.Math.min.name ∈ GW) (k2 : Cond.static Lib.Math.min.name ∈ GW) (k3 : Cond.initialized "java/lang/Math" ∈ GW) (k4 : Cond.code Lib.Math.min.name Lib.Math.min.code 2 (some .int) ∈ GW)
    (h1 : 1 ≤ R.frames) (h2 : (rest.map fun v => v.category).sum + 13 ≤ R.locals) (hf : cells ≤ R.cells ∧ slots ≤ R.slots) {x y : Int32} (hdg : decode cc pc = .ok (.invokestatic index, 3))
    (kk : W p l e R s m args below meth c H locs cells slots Q (F0 m (pc + 3) ls (.int (if y < x then y else x) :: rest))) : W p l e R s m args below meth c H locs cells slots Q (F0 m pc ls (.int y :: .int x :: rest)) := by
  obtain ⟨⟨hx, hb, hml, hown, hts⟩, hK, hro⟩ := C
  exact va_mmin hx hb (hml.trans hl.1.symm) hown (hts _ k1) (hts _ k2) (hts _ k3) (hts _ k4) h1 h2 hf.1 hf.2 hdg kk
end MATHS
theorem va_ldcSw {p : Program} {l : Launch} {e : Env} {R : Room} {s : State} {m : MethodId} {args : Array Value} {below : List Frame} {meth : Method} {c : Code} {H : Heap} {locs : List Loc} {cells slots : Nat} {Q : State → Prop} {cc : ByteArray} {pc : Nat} {ls : Array Slot} {rest : List Value}
    (hexec : p.tables.exec = Jvm.exec) (hb : c.code = cc) {own tx : String} {index q : Nat} (hown : s.vm.findClass own = some m.cls) (hZ : vk_R own index tx q s) (hdg : decode cc pc = .ok (.ldc_w index, 3))
    (k : W p l e R s m args below meth c H locs cells slots Q (F0 m (pc + 3) ls (.ref q :: rest))) : W p l e R s m args below meth c H locs cells slots Q (F0 m pc ls rest) := by
  intro T hT X
  obtain ⟨t, a1, b1⟩ := k T hT X
  exact ⟨t, X.ldcStringW hexec hown (text := tx) (a := q) hZ.1 hZ.2 (g := F0 m pc ls rest) rfl (by rw [hb]; exact hdg) t a1, b1⟩
-- checks
def ck {α : Type} (n : Nat) (i : Int32) (x : Option α) : Option α := if i < 0 ∨ n ≤ i.toNatClampNeg then none else x
theorem ck_of {α : Type} {n : Nat} {i : Int32} {x : Option α} {r : α} (h : ck n i x = some r) : vp_in i n ∧ x = some r := by
  unfold ck at h
  by_cases c : i < 0 ∨ n ≤ i.toNatClampNeg
  · rw [if_pos c] at h; cases h
  · rw [if_neg c] at h; exact ⟨c, h⟩
theorem ck_in {α : Type} {n : Nat} {i : Int32} {x : Option α} (h : vp_in i n) : ck n i x = x := if_neg h
def cd {α : Type} (y : Int32) (x : Option α) : Option α := if y = 0 then none else x
theorem cd_of {α : Type} {y : Int32} {x : Option α} {r : α} (h : cd y x = some r) : ¬ y = 0 ∧ x = some r := by
  unfold cd at h
  by_cases c : y = 0
  · rw [if_pos c] at h; cases h
  · rw [if_neg c] at h; exact ⟨c, h⟩
def cb {α : Type} (v : Int32) (x : Option α) : Option α := if v = 0 ∨ v = 1 then x else none
theorem cb_of {α : Type} {v : Int32} {x : Option α} {r : α} (h : cb v x = some r) : (v = 0 ∨ v = 1) ∧ x = some r := by
  unfold cb at h
  by_cases c : v = 0 ∨ v = 1
  · rw [if_pos c] at h; exact ⟨c, h⟩
  · rw [if_neg c] at h; cases h
-- loops without a bound of their own
def Wrun {S R : Type} (f : S → Option (S ⊕ R)) : Nat → S → Option R
  | 0, _ => none
  | n + 1, s => match f s with
    | none => none
    | some (.inl s') => Wrun f n s'
    | some (.inr r) => some r
noncomputable def Wh {S R : Type} (f : S → Option (S ⊕ R)) (s : S) : Option R :=
  @dite _ (∃ n r, Wrun f n s = some r) (Classical.propDecidable _) (fun h => Wrun f (Classical.choose h) s) (fun _ => none)
theorem Wrun_add {S R : Type} {f : S → Option (S ⊕ R)} {r : R} : ∀ (n : Nat) (s : S) (k : Nat), Wrun f n s = some r → Wrun f (n + k) s = some r
  | 0, s, k, h => by cases h
  | n + 1, s, k, h => by
    have e : n + 1 + k = (n + k) + 1 := by omega
    rw [e]
    unfold Wrun at h ⊢
    cases hf : f s with
    | none => rw [hf] at h; cases h
    | some o =>
      rw [hf] at h
      cases o with
      | inl s' => exact Wrun_add n s' k h
      | inr r' => exact h
theorem Wh_iff {S R : Type} {f : S → Option (S ⊕ R)} {s : S} {r : R} : Wh f s = some r ↔ ∃ n, Wrun f n s = some r := by
  unfold Wh
  by_cases h : ∃ n r, Wrun f n s = some r
  · rw [dif_pos h]
    obtain ⟨r1, h1⟩ := Classical.choose_spec h
    constructor
    · intro h2; exact ⟨_, h2⟩
    · rintro ⟨n, h2⟩
      have a1 := Wrun_add _ _ n h1
      have a2 := Wrun_add _ _ (Classical.choose h) h2
      rw [Nat.add_comm] at a2
      rw [h1, ← a1, a2]
  · rw [dif_neg h]
    constructor
    · intro h2; cases h2
    · rintro ⟨n, h2⟩; exact absurd ⟨n, r, h2⟩ h
theorem Wh_rule {S R : Type} {f : S → Option (S ⊕ R)} {s : S} {r : R} (h : Wh f s = some r) (P : S → Prop)
    (hs : ∀ (s : S) (o : S ⊕ R), f s = some o → (∀ s', o = .inl s' → P s') → (∀ r', o = .inr r' → r' = r) → P s) : P s := by
  obtain ⟨n, hn⟩ := Wh_iff.mp h
  clear h
  revert s
  induction n with
  | zero => intro s h; cases h
  | succ n ih =>
    intro s h
    unfold Wrun at h
    cases hf : f s with
    | none => rw [hf] at h; cases h
    | some o =>
      rw [hf] at h
      cases o with
      | inl s' => exact hs s _ hf (fun s'' e => by cases e; exact ih h) (fun r' e => by cases e)
      | inr r' =>
        cases h
        exact hs s _ hf (fun s'' e => by cases e) (fun r2 e => by cases e; rfl)
theorem map_of {α β : Type} {x : Option α} {g : α → β} {o : β} (h : x.map g = some o) : ∃ a, x = some a ∧ g a = o := Option.map_eq_some_iff.mp h
theorem bd_of {α β : Type} {x : Option α} {g : α → Option β} {o : β} (h : x.bind g = some o) : ∃ a, x = some a ∧ g a = some o := Option.bind_eq_some_iff.mp h
