-- new cells: a world with one key more; a world seen by other keys
def fax (fa : Fa) (kN : Ky) (q : Nat) : Fa := fun k => if k = kN then some q else fa k
def fex (fe : Fe) (kN : Ky) (g : (Nat → Int32) → va_E) : Fe := fun k r => if k = kN then g r else fe k r
theorem fax_self (fa : Fa) (kN : Ky) (q : Nat) : fax fa kN q kN = some q := if_pos rfl
theorem fax_ne {fa : Fa} {kN k : Ky} {q : Nat} (h : k ≠ kN) : fax fa kN q k = fa k := if_neg h
theorem fex_self (fe : Fe) (kN : Ky) (g : (Nat → Int32) → va_E) (r : Nat → Int32) : fex fe kN g kN r = g r := if_pos rfl
theorem fex_ne {fe : Fe} {kN k : Ky} {g : (Nat → Int32) → va_E} {r : Nat → Int32} (h : k ≠ kN) : fex fe kN g k r = fe k r := if_neg h
theorem mro_self (μ : Mm) (k : Ky) (f : Nat → Int32) : mro μ k f k = f := if_pos rfl
theorem mro_ne {μ : Mm} {k j : Ky} {f : Nat → Int32} (h : j ≠ k) : mro μ k f j = μ j := if_neg h
theorem va_D.nodup {A : Nat → Prop} {ws : va_W} (h : va_D A ws) : ws.Pairwise (fun p q => p.1 ≠ q.1) := by
  rw [List.pairwise_iff_getElem]
  intro i j hi hj hij e
  have := h.1 i j _ _ (List.getElem?_eq_getElem hi) (List.getElem?_eq_getElem hj) e
  omega
theorem va_D.of_nodup {A : Nat → Prop} {ws : va_W} (h : ws.Pairwise (fun p q => p.1 ≠ q.1)) (hA : ∀ q ∈ ws, A q.1) : va_D A ws := by
  refine ⟨fun i j p q hi hj e => ?_, fun k q hk => hA q (List.mem_of_getElem? hk)⟩
  rw [List.pairwise_iff_getElem] at h
  obtain ⟨li, ei⟩ := List.getElem?_eq_some_iff.mp hi
  obtain ⟨lj, ej⟩ := List.getElem?_eq_some_iff.mp hj
  rcases Nat.lt_trichotomy i j with c | c | c
  · exact absurd (by rw [ei, ej]; exact e) (h i j li lj c)
  · exact c
  · exact absurd (by rw [ei, ej]; exact e.symm) (h j i lj li c)
theorem wd.reindex {D : va_G} {fa fa2 : Fa} {fe fe2 : Fe} {μ μ2 : Mm} {H : Heap} (h : wd D fa fe μ H) (hm : ∀ k a, fa2 k = some a → ∃ k1, fa k1 = some a ∧ fe k1 (μ k1) = fe2 k (μ2 k)) : wd D fa2 fe2 μ2 H := by
  obtain ⟨ws, h1, hP, hD⟩ := h
  let p : Nat × va_E → Prop := fun q => ∃ k, fa2 k = some q.1 ∧ q.2 = fe2 k (μ2 k)
  have hp : ∀ q, Decidable (p q) := fun q => Classical.propDecidable _
  refine ⟨ws.filter (fun q => @decide (p q) (hp q)), fun q => ?_, fun k q hk => ?_, ?_⟩
  · rw [List.mem_filter]
    constructor
    · rintro ⟨-, hq⟩
      have hq := @of_decide_eq_true _ (hp q) hq
      obtain ⟨k, h3, h4⟩ := hq
      exact ⟨k, q.1, h3, by rw [← h4]⟩
    · rintro ⟨k, a, h3, rfl⟩
      obtain ⟨k1, h4, h5⟩ := hm k a h3
      refine ⟨(h1 _).mpr ⟨k1, a, h4, by rw [h5]⟩, @decide_eq_true _ (hp _) ⟨k, h3, rfl⟩⟩
  · have hmem := List.mem_of_getElem? hk
    rw [List.mem_filter] at hmem
    obtain ⟨i, hi⟩ := List.mem_iff_getElem?.mp hmem.1
    exact hP i q hi
  · exact va_D.of_nodup (hD.nodup.sublist List.filter_sublist) (fun _ _ => trivial)
theorem chr.push {fa : Fa} {fe : Fe} {μ : Mm} {ws : va_W} (h : chr fa fe μ ws) {kN : Ky} (hk : fa kN = none) {q : Nat} (g : (Nat → Int32) → va_E) (f : Nat → Int32) : chr (fax fa kN q) (fex fe kN g) (mro μ kN f) (ws ++ [(q, g f)]) := by
  intro z
  rw [List.mem_append, List.mem_singleton, h z]
  constructor
  · rintro (⟨k, a, h1, h2⟩ | h1)
    · have hne : k ≠ kN := fun e => by rw [e, hk] at h1; cases h1
      exact ⟨k, a, by rw [fax_ne hne]; exact h1, by rw [fex_ne hne, mro_ne hne]; exact h2⟩
    · exact ⟨kN, q, fax_self _ _ _, by rw [fex_self, mro_self]; exact h1⟩
  · rintro ⟨k, a, h1, h2⟩
    by_cases hne : k = kN
    · subst hne
      rw [fax_self] at h1
      cases h1
      rw [fex_self, mro_self] at h2
      exact Or.inr h2
    · rw [fax_ne hne] at h1
      rw [fex_ne hne, mro_ne hne] at h2
      exact Or.inl ⟨k, a, h1, h2⟩
section NEWS
variable {p : Program} {l : Launch} {e : Env} {R : Room} {s : State} {m : MethodId} {args : Array Value} {below : List Frame} {meth : Method} {c : Code} {H : Heap} {locs : List Loc} {cells slots : Nat} {Q : State → Prop}
variable {ccx : ByteArray} {pc nL : Nat} {ls : Array Slot} {rest : List Value} {D : va_G} {tc : Nat → ClassId} {ro : Ro} {fa : Fa} {fe : Fe} {A : Nat → Prop} {H0 : Heap} {μ : Mm} {own : String} {k : Ky} {a : Nat}
theorem Wd.push {ws : va_W} {q : Nat} {e : va_E} {H1 : Heap} (h1 : chr fa fe μ ws) (hA : ∀ k a, fa k = some a → A a) (hZ : ∀ q, H0.size ≤ q → A q) (hi : inj fa) {kN : Ky} (hk : fa kN = none) (g : (Nat → Int32) → va_E) (f : Nat → Int32) (hg : g f = e)
    (hP1 : va_P D cls (ws ++ [(q, e)]) H1) (hD1 : va_D A (ws ++ [(q, e)])) (hS1 : va_S A H0 H1 locs) : Wd D (fax fa kN q) (fex fe kN g) A H0 (mro μ kN f) H1 locs := by
  subst hg
  refine ⟨⟨_, h1.push hk g f, hP1, hD1.weaken (fun _ _ _ _ => trivial)⟩, hS1, fun k a h => ?_, hZ, fun i j b hi1 hj1 => ?_⟩
  · by_cases hne : k = kN
    · subst hne
      rw [fax_self] at h
      cases h
      exact hD1.2 ws.length (q, g f) (by simp)
    · rw [fax_ne hne] at h
      exact hA k a h
  · have key : ∀ k b, k ≠ kN → fa k = some b → b = q → False := by
      intro k b hne hb hbq
      obtain ⟨q0, hq0⟩ := h1.get hb
      have hl := (List.getElem?_eq_some_iff.mp hq0).1
      have := hD1.1 q0 ws.length (b, fe k (μ k)) (q, g f) (by rw [List.getElem?_append_left hl]; exact hq0) (by simp) hbq
      omega
    by_cases hni : i = kN
    · by_cases hnj : j = kN
      · rw [hni, hnj]
      · rw [fax_ne hnj] at hj1
        subst hni
        rw [fax_self] at hi1
        cases hi1
        exact (key j _ hnj hj1 rfl).elim
    · rw [fax_ne hni] at hi1
      by_cases hnj : j = kN
      · subst hnj
        rw [fax_self] at hj1
        cases hj1
        exact (key i _ hni hi1 rfl).elim
      · rw [fax_ne hnj] at hj1
        exact hi i j b hi1 hj1
theorem r_newi (C : Cx p s m args c own ccx nL D tc ro A) (hW : Wd D fa fe A H0 μ H locs) {kN : Ky} (hk : fa kN = none) (hcl : Cond.arrayClass .int ∈ GW) {n : Int32} {N : Nat} (hn : ¬ n < 0) (hN : n.toNatClampNeg = N) (hb : N ≤ 134217728) (hc : cells + 1 ≤ R.cells) (hs : slots + N ≤ R.slots) (hdg : decode ccx pc = .ok (.newarray .int, 2))
    (kk : ∀ (q : Nat) (H1 : Heap), Wd D (fax fa kN q) (fex fe kN (fun r => .inl (tc 0, N, .inl r))) A H0 (mro μ kN (fun _ => 0)) H1 locs → W p l e R s m args below meth c H1 locs (cells + 1) (slots + N) Q (F0 m (pc + 2) ls (.ref q :: rest))) : W p l e R s m args below meth c H locs cells slots Q (F0 m pc ls (.int n :: rest)) := by
  obtain ⟨⟨hx, hbb, hml, hown, hts⟩, hK, hro⟩ := C
  obtain ⟨⟨ws, h1, hP, hD⟩, hS, hA, hZ, hi⟩ := hW
  refine va_newa (ws := ws) (atype := .int) (a0 := (N, .inl (fun _ => 0))) hx hbb (hts _ hcl) rfl hK hP (h1.A hD hA) hS hZ (fun _ => rfl) hn hN (by show N * 4 ≤ 536870912; omega) hc hs hdg (fun q cA H1 hK1 hP1 hD1 hS1 => kk q H1 ?_)
  have e1 := (hK1.2 0 (tc 0, .int) rfl).2
  have e2 := (hK1.2 5 (cA, .int) rfl).2
  have e3 : cA = tc 0 := Option.some.inj (e2.symm.trans e1)
  subst e3
  exact Wd.push h1 hA hZ hi hk _ _ rfl hP1 hD1 hS1
theorem r_newo (C : Cx p s m args c own ccx nL D tc ro A) (hW : Wd D fa fe A H0 μ H locs) {kN : Ky} (hk : fa kN = none) {C0 : String} {T : u_T} {N ci index : Nat} (hc : cls[ci]? = some (C0, T, N)) (hin : ∀ w ∈ u_ws C0 T N, w ∈ GW) {ty0 : Nat → FieldType} (hty : ∀ k, k < N → parseFieldDescriptor (T k).2.2.1 = some (ty0 k))
    (w1 : Cond.classLink own index C0 ∈ GW) (w2 : Cond.instantiable C0 N ∈ GW) (w3 : Cond.initialized C0 ∈ GW) (g : (Nat → Int32) → List Value) (hg : ∀ j, j < N → defaultValue (ty0 j) = vp_V (g (fun _ => 0)) j) (hcc : cells + 1 ≤ R.cells) (hs : slots + N ≤ R.slots) (hdg : decode ccx pc = .ok (.new index, 3))
    (kk : ∀ (q : Nat) (H1 : Heap), Wd D (fax fa kN q) (fex fe kN (fun r => .inr (ci, g r))) A H0 (mro μ kN (fun _ => 0)) H1 locs → W p l e R s m args below meth c H1 locs (cells + 1) (slots + N) Q (F0 m (pc + 3) ls (.ref q :: rest))) : W p l e R s m args below meth c H locs cells slots Q (F0 m pc ls rest) := by
  obtain ⟨⟨hx, hbb, hml, hown, hts⟩, hK, hro⟩ := C
  obtain ⟨⟨ws, h1, hP, hD⟩, hS, hA, hZ, hi⟩ := hW
  refine va_new (ws := ws) (fs := g (fun _ => 0)) hx hbb hts hin ty0 hty hown (hts _ w1) (hts _ w2) (hts _ w3) hK hP (h1.A hD hA) hS hZ hc hg hcc hs hdg (fun q H1 hP1 hD1 hS1 => kk q H1 ?_)
  exact Wd.push h1 hA hZ hi hk _ _ rfl hP1 hD1 hS1
-- a put that changes how a key is read
theorem chr.setG {fe' : Fe} {μ' : Mm} {ws : va_W} (h : chr fa fe μ ws) (hi : inj fa) (hD : va_D A ws) {q0 : Nat} {e' : va_E} (ha : fa k = some a)
    (hq : ws[q0]? = some (a, fe k (μ k))) (hk : fe' k (μ' k) = e') (hne : ∀ j, j ≠ k → fe' j (μ' j) = fe j (μ j)) : chr fa fe' μ' (ws.set q0 (a, e')) := by
  intro z
  have hl : q0 < ws.length := (List.getElem?_eq_some_iff.mp hq).1
  constructor
  · intro hm
    obtain ⟨i, hi2⟩ := List.mem_iff_getElem?.mp hm
    by_cases hiq : i = q0
    · subst hiq
      rw [List.getElem?_set_self hl] at hi2
      cases hi2
      exact ⟨k, a, ha, by rw [hk]⟩
    · rw [List.getElem?_set_ne (Ne.symm hiq)] at hi2
      obtain ⟨j, b, h1, h2⟩ := (h z).mp (List.mem_of_getElem? hi2)
      refine ⟨j, b, h1, ?_⟩
      rw [hne j (fun hjk => ?_)]
      · exact h2
      · subst hjk
        cases ha.symm.trans h1
        rw [h2] at hi2
        exact hiq (hD.1 i q0 _ _ hi2 hq rfl)
  · rintro ⟨j, b, h1, h2⟩
    by_cases hjk : j = k
    · subst hjk
      cases ha.symm.trans h1
      rw [h2, hk]
      exact List.mem_iff_getElem?.mpr ⟨q0, List.getElem?_set_self hl⟩
    · rw [hne j hjk] at h2
      obtain ⟨i, hi2⟩ := List.mem_iff_getElem?.mp ((h z).mpr ⟨j, b, h1, h2⟩)
      refine List.mem_iff_getElem?.mpr ⟨i, ?_⟩
      by_cases hiq : i = q0
      · subst hiq
        rw [hq] at hi2
        cases hi2
        have h3 : a = b := congrArg Prod.fst h2
        subst h3
        exact absurd (hi _ _ _ h1 ha) hjk
      · rw [List.getElem?_set_ne (Ne.symm hiq)]
        exact hi2
theorem r_putG (C : Cx p s m args c own ccx nL D tc ro A) (hW : Wd D fa fe A H0 μ H locs) {R0 ref : String} {T : u_T} {N ci f index : Nat} (hc : cls[ci]? = some (R0, T, N)) (hf : f < N) (hin : ∀ w ∈ u_ws R0 T N, w ∈ GW)
    {ty0 : Nat → FieldType} (hty : ∀ k, k < N → parseFieldDescriptor (T k).2.2.1 = some (ty0 k)) (hnm : ∀ a, a < N → ∀ b, b < N → a ≠ b → (T a).2.1 ≠ (T b).2.1)
    (hl : Cond.fieldLink own index ref (T f).2.1 (T f).2.2.1 ∈ GW) (hs : ref = (T f).1 ∨ Cond.sameField ref (T f).1 (T f).2.1 (T f).2.2.1 ∈ GW) (hfin : (T f).2.2.2 = false) {ty : FieldType} (hd : parseFieldDescriptor (T f).2.2.1 = some ty)
    (ha : fa k = some a) {fs : List Value} (he : fe k (μ k) = .inr (ci, fs)) (hlt : f < fs.length) {v : Value} (hn : narrow ty v = v) (hfit : fits ty v = true) {fe' : Fe} {μ' : Mm} (he' : fe' k (μ' k) = .inr (ci, fs.set f v)) (hne : ∀ j, j ≠ k → fe' j (μ' j) = fe j (μ j)) (hdg : decode ccx pc = .ok (.putfield index, 3))
    (kk : ∀ (H1 : Heap) (locs1 : List Loc), Wd D fa fe' A H0 μ' H1 locs1 → W p l e R s m args below meth c H1 locs1 cells slots Q (F0 m (pc + 3) ls rest)) : W p l e R s m args below meth c H locs cells slots Q (F0 m pc ls (v :: .ref a :: rest)) := by
  obtain ⟨⟨hx, hb, hml, hown, hts⟩, hK, hro⟩ := C
  obtain ⟨⟨ws, h1, hP, hD⟩, hS, hA, hZ, hi⟩ := hW
  obtain ⟨q0, hq⟩ := h1.get ha
  have hq2 := hq
  rw [he] at hq2
  refine va_put (ws := ws) hx hb hts hin ty0 hty hnm hown hK hP (h1.A hD hA) hS q0 hq2 hc f hf (hts _ hl) (fun x h => by
    rcases hs with rfl | hs
    · exact h
    · exact u_same (hts _ hs) x h) hfin hd hn hfit hlt hdg (fun H1 locs1 hP1 hD1 hS1 => kk H1 locs1 ⟨⟨_, ?_, hP1, hD1.weaken (fun _ _ _ _ => trivial)⟩, hS1, hA, hZ, hi⟩)
  exact h1.setG hi hD ha hq he' hne
theorem r_putFG (C : Cx p s m args c own ccx nL D tc ro A) (hinit : meth.name = "<init>") (hW : Wd D fa fe A H0 μ H locs) {R0 ref : String} {T : u_T} {N ci f index : Nat} (hc : cls[ci]? = some (R0, T, N)) (hf : f < N) (hin : ∀ w ∈ u_ws R0 T N, w ∈ GW)
    {ty0 : Nat → FieldType} (hty : ∀ k, k < N → parseFieldDescriptor (T k).2.2.1 = some (ty0 k)) (hnm : ∀ a, a < N → ∀ b, b < N → a ≠ b → (T a).2.1 ≠ (T b).2.1)
    (hl : Cond.fieldLink own index ref (T f).2.1 (T f).2.2.1 ∈ GW) (hown1 : (T f).1 = own) (hs : ref = (T f).1) (hfin : (T f).2.2.2 = true) {ty : FieldType} (hd : parseFieldDescriptor (T f).2.2.1 = some ty)
    (ha : fa k = some a) {fs : List Value} (he : fe k (μ k) = .inr (ci, fs)) (hlt : f < fs.length) {v : Value} (hn : narrow ty v = v) (hfit : fits ty v = true) {fe' : Fe} {μ' : Mm} (he' : fe' k (μ' k) = .inr (ci, fs.set f v)) (hne : ∀ j, j ≠ k → fe' j (μ' j) = fe j (μ j)) (hdg : decode ccx pc = .ok (.putfield index, 3))
    (kk : ∀ (H1 : Heap) (locs1 : List Loc), Wd D fa fe' A H0 μ' H1 locs1 → W p l e R s m args below meth c H1 locs1 cells slots Q (F0 m (pc + 3) ls rest)) : W p l e R s m args below meth c H locs cells slots Q (F0 m pc ls (v :: .ref a :: rest)) := by
  obtain ⟨⟨hx, hb, hml, hown, hts⟩, hK, hro⟩ := C
  obtain ⟨⟨ws, h1, hP, hD⟩, hS, hA, hZ, hi⟩ := hW
  obtain ⟨q0, hq⟩ := h1.get ha
  have hq2 := hq
  rw [he] at hq2
  refine va_putF (ws := ws) hx hb hts hin ty0 hty hnm hown hK hP (h1.A hD hA) hS q0 hq2 hc f hf (hts _ hl) (fun x h => by rw [hs]; exact h) hfin hinit hown1 hd hn hfit hlt hdg (fun H1 locs1 hP1 hD1 hS1 => kk H1 locs1 ⟨⟨_, ?_, hP1, hD1.weaken (fun _ _ _ _ => trivial)⟩, hS1, hA, hZ, hi⟩)
  exact h1.setG hi hD ha hq he' hne
end NEWS
