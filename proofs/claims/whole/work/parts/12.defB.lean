-- the world of the object under test: shapes (lengths, what is there, who refers to whom) apart from what is in them
abbrev Sh : Type := Nat → Nat → Nat
def cex (sh : Sh) (c : Nat) : Bool := decide (c < 15) || decide (sh 2 ((c - 15) / 5) = 1)
def faB (oa : Ky → Nat) (aa : Nat → Nat) (sh : Sh) : Fa := fun k => match k.1 with
  | 0 => if k.2 = 0 then some (oa k) else none
  | 1 => if k.2 = 0 then some (oa k) else none
  | 2 => if k.2 = 0 then some (oa k) else none
  | 3 => if k.2 = 0 then some (oa k) else none
  | 4 => if k.2 = 0 then some (oa k) else none
  | 5 => if k.2 = 0 then some (oa k) else none
  | 6 => if k.2 < 2 then some (oa k) else none
  | 7 => if k.2 < 2 then some (oa k) else none
  | 8 => if k.2 < 2 then some (oa k) else none
  | 9 => if k.2 < 2 then some (oa k) else none
  | 10 => if k.2 = 0 then some (oa k) else none
  | 11 => if cex sh k.2 = true then some (oa k) else none
  | 12 => if cex sh k.2 = true then some (aa k.2) else none
  | 13 => if sh 2 k.2 = 1 then some (oa k) else none
  | 14 => if k.2 < sh 4 2 then some (oa k) else none
  | 15 => if k.2 < sh 4 2 then some (oa k) else none
  | _ => none
def fsBV (oa : Ky → Nat) (sh : Sh) (r : Nat → Int32) : List Value := [.ref (oa (2, 0)), .ref (oa (3, 0)), .ref (oa (4, 0)), .ref (oa (5, 0)), .ref (oa (6, 0)), .ref (oa (6, 1)), .ref (oa (1, 0)), .int (r 7), .int (r 8), .ref (oa (13, sh 4 0)), .ref (oa (13, sh 4 1)), if sh 2 10 = 0 then .null else .ref (oa (13, 10)), .int (r 12)]
def fsTape (oa : Ky → Nat) (r : Nat → Int32) : List Value := [.ref (oa (11, 0)), .int (r 1)]
def fsMind (oa : Ky → Nat) : List Value := [.ref (oa (11, 1)), .ref (oa (11, 2)), .ref (oa (11, 3)), .ref (oa (11, 4)), .ref (oa (11, 5)), .ref (oa (11, 6)), .ref (oa (11, 7)), .ref (oa (11, 8)), .ref (oa (11, 9))]
def fsPuz (oa : Ky → Nat) (r : Nat → Int32) : List Value := [.ref (oa (3, 0)), .ref (oa (11, 10)), .int (r 2), .ref (oa (11, 11)), .ref (oa (11, 12)), .ref (oa (11, 13)), .ref (oa (11, 14))]
def fsRd (oa : Ky → Nat) (sh : Sh) (i : Nat) (r : Nat → Int32) : List Value := [.ref (oa (7, i)), .ref (oa (8, i)), .ref (oa (9, i)), .int (r 3), .int (r 4), if sh 5 i = 0 then .null else .ref (oa (2, 0)), .int (r 6), .int (r 7), .int (r 8), .int (r 9), .int (r 10)]
def fsVR (oa : Ky → Nat) (sh : Sh) (r : Nat → Int32) : List Value := fsRd oa sh 0 r ++ [.ref (oa (3, 0)), if sh 4 5 = 0 then .null else .ref (oa (13, sh 4 5 - 1)), .int (r 13), .int (r 14)]
def fsLR (oa : Ky → Nat) (sh : Sh) (r : Nat → Int32) : List Value := fsRd oa sh 1 r ++ [.ref (oa (10, 0)), .int (r 12)]
def fsSt (oa : Ky → Nat) (sh : Sh) (j : Nat) (r : Nat → Int32) : List Value := [.int (r 0), .int (r 1), .int (r 2), .int (r 3), .int (r 4), .int (r 5), .int (r 6), .int (r 7), if sh 3 j = 0 then .null else .ref (oa (14, sh 3 j - 1)), .ref (oa (11, 15 + 5 * j + 0)), .ref (oa (11, 15 + 5 * j + 1)), .ref (oa (11, 15 + 5 * j + 2)), .ref (oa (11, 15 + 5 * j + 3)), .ref (oa (11, 15 + 5 * j + 4)), .int (r 14), .int (r 15)]
def fsLaw (oa : Ky → Nat) (i : Nat) (r : Nat → Int32) : List Value := [.ref (oa (15, i)), .int (r 1)]
def feB (tc : Nat → ClassId) (oa : Ky → Nat) (aa : Nat → Nat) (sh : Sh) : Fe := fun k r => match k.1 with
  | 0 => .inr (10, fsBV oa sh r)
  | 1 => .inl (tc 3, 8, .inr (.inr (.inr (.inr (fun i => if sh 2 (2 + i) = 0 then none else some (oa (13, 2 + i)))))))
  | 2 => .inr (7, fsTape oa r)
  | 3 => .inr (4, fsMind oa)
  | 4 => .inr (0, [.ref (oa (3, 0))])
  | 5 => .inr (5, fsPuz oa r)
  | 6 => match k.2 with
    | 0 => .inr (9, fsVR oa sh r)
    | _ => .inr (3, fsLR oa sh r)
  | 7 => .inl (tc 0, 400, .inl r)
  | 8 => .inl (tc 0, 400, .inl r)
  | 9 => .inl (tc 0, 400, .inl r)
  | 10 => .inl (tc 0, 512, .inl r)
  | 11 => .inr (1, [.ref (aa k.2)])
  | 12 => .inl (tc 0, sh 0 k.2, .inl r)
  | 13 => .inr (6, fsSt oa sh k.2 r)
  | 14 => .inr (2, fsLaw oa k.2 r)
  | 15 => .inl (tc 0, sh 1 k.2, .inl r)
  | _ => .inl (tc 0, 0, .inl r)
theorem faB_11 {oa : Ky → Nat} {aa : Nat → Nat} {sh : Sh} {c : Nat} (h : cex sh c = true) : faB oa aa sh (11, c) = some (oa (11, c)) := if_pos h
theorem faB_12 {oa : Ky → Nat} {aa : Nat → Nat} {sh : Sh} {c : Nat} (h : cex sh c = true) : faB oa aa sh (12, c) = some (aa c) := if_pos h
theorem faB_13 {oa : Ky → Nat} {aa : Nat → Nat} {sh : Sh} {j : Nat} (h : sh 2 j = 1) : faB oa aa sh (13, j) = some (oa (13, j)) := if_pos h
theorem faB_14 {oa : Ky → Nat} {aa : Nat → Nat} {sh : Sh} {i : Nat} (h : i < sh 4 2) : faB oa aa sh (14, i) = some (oa (14, i)) := if_pos h
theorem faB_15 {oa : Ky → Nat} {aa : Nat → Nat} {sh : Sh} {i : Nat} (h : i < sh 4 2) : faB oa aa sh (15, i) = some (oa (15, i)) := if_pos h
theorem cex_st {sh : Sh} {j i : Nat} (h : sh 2 j = 1) (hi : i < 5) : cex sh (15 + 5 * j + i) = true := by
  unfold cex
  rw [show (15 + 5 * j + i - 15) / 5 = j by omega, h]
  simp
def WfS (sh : Sh) : Prop := (∀ j, sh 3 j ≤ sh 4 2) ∧ sh 2 (sh 4 0) = 1 ∧ sh 2 (sh 4 1) = 1 ∧ (sh 4 5 = 0 ∨ sh 2 (sh 4 5 - 1) = 1) ∧ (∀ j, sh 2 j = 0 ∨ sh 2 j = 1)
theorem rule_lt {sh : Sh} (h : WfS sh) {j : Nat} (q : ¬ sh 3 j = 0) : sh 3 j - 1 < sh 4 2 := by have := h.1 j; omega
theorem vst_ex {sh : Sh} (h : WfS sh) (q : ¬ sh 4 5 = 0) : sh 2 (sh 4 5 - 1) = 1 := h.2.2.2.1.resolve_left q
theorem kept_ex {sh : Sh} (h : WfS sh) (q : ¬ sh 2 10 = 0) : sh 2 10 = 1 := (h.2.2.2.2 10).resolve_left q
theorem st_inj {D : va_G} {oa : Ky → Nat} {aa : Nat → Nat} {sh : Sh} {fe : Fe} {A : Nat → Prop} {H0 H : Heap} {μ : Mm} {locs : List Loc} (hW : Wd D (faB oa aa sh) fe A H0 μ H locs) {i j : Nat} (hi : sh 2 i = 1) (hj : sh 2 j = 1) (h : oa (13, i) = oa (13, j)) : i = j := by
  have h2 := hW.2.2.2.2 (13, i) (13, j) (oa (13, i)) (faB_13 hi) (by rw [h]; exact faB_13 hj)
  exact congrArg Prod.snd h2
-- rows copied
def mrow (μ : Mm) (k : Ky) (f : Nat → Int32) : Mm := fun q => if q = k then f else μ q
theorem mrow_self (μ : Mm) (k : Ky) (f : Nat → Int32) : mrow μ k f k = f := if_pos rfl
theorem mrow_ne {μ : Mm} {k j : Ky} {f : Nat → Int32} (h : j ≠ k) : mrow μ k f j = μ j := if_neg h
def cc {α : Type} (n1 n2 : Nat) (sp dp n : Int32) (x : Option α) : Option α := if ¬ sp < 0 ∧ ¬ dp < 0 ∧ ¬ n < 0 ∧ sp.toNatClampNeg + n.toNatClampNeg ≤ n1 ∧ dp.toNatClampNeg + n.toNatClampNeg ≤ n2 then x else none
theorem cc_of {α : Type} {n1 n2 : Nat} {sp dp n : Int32} {x : Option α} {r : α} (h : cc n1 n2 sp dp n x = some r) : (¬ sp < 0 ∧ ¬ dp < 0 ∧ ¬ n < 0 ∧ sp.toNatClampNeg + n.toNatClampNeg ≤ n1 ∧ dp.toNatClampNeg + n.toNatClampNeg ≤ n2) ∧ x = some r := by
  unfold cc at h
  split at h
  · exact ⟨by assumption, h⟩
  · cases h
theorem r_copy {p : Program} {l : Launch} {e : Env} {R : Room} {s : State} {m : MethodId} {args : Array Value} {below : List Frame} {meth : Method} {c : Code} {H : Heap} {locs : List Loc} {cells slots : Nat} {Q : State → Prop}
    {ccx : ByteArray} {pc nL : Nat} {ls : Array Slot} {rest : List Value} {D : va_G} {tc : Nat → ClassId} {ro : Ro} {fa : Fa} {fe : Fe} {A : Nat → Prop} {H0 : Heap} {μ : Mm} {own : String} {k k2 : Ky} {a a0 : Nat} {lv : List (Nat × Value)} {index n1 n2 : Nat}
    (C : Cx p s m args c own ccx nL D tc ro A) (hW : Wd D fa fe A H0 μ H locs) (hl : lv_has ls nL lv) (w1 : Cond.methodLink own index arraycopyName ∈ GW) (w2 : Cond.native arraycopyName ∈ GW) (w3 : Cond.static arraycopyName ∈ GW) (w4 : Cond.initialized "java/lang/System" ∈ GW)
    (h1 : 1 ≤ R.frames) (h2 : (rest.map fun v => v.category).sum + (nativeFrameWords "java/lang/System" "arraycopy" 5 + 11) ≤ R.locals) (ha0 : fa k = some a0) (he0 : ∀ r, fe k r = .inl (tc 0, n1, .inl r)) (ha : fa k2 = some a) (he : ∀ r, fe k2 r = .inl (tc 0, n2, .inl r))
    {sp dp n : Int32} (hc : ¬ sp < 0 ∧ ¬ dp < 0 ∧ ¬ n < 0 ∧ sp.toNatClampNeg + n.toNatClampNeg ≤ n1 ∧ dp.toNatClampNeg + n.toNatClampNeg ≤ n2) (hdg : decode ccx pc = .ok (.invokestatic index, 3))
    (kk : ∀ (H1 : Heap) (locs1 : List Loc), Wd D fa fe A H0 (mrow μ k2 (va_cpy (μ k) (μ k2) sp.toNatClampNeg dp.toNatClampNeg n.toNatClampNeg)) H1 locs1 → W p l e R s m args below meth c H1 locs1 cells slots Q (F0 m (pc + 3) ls rest)) : W p l e R s m args below meth c H locs cells slots Q (F0 m pc ls (.int n :: .int dp :: .ref a :: .int sp :: .ref a0 :: rest)) := by
  obtain ⟨⟨hx, hb, hml, hown, hts⟩, hK, hro⟩ := C
  obtain ⟨⟨ws, h3, hP, hD⟩, hS, hA, hZ, hi⟩ := hW
  obtain ⟨q0, hq0⟩ := h3.get ha0
  obtain ⟨q1, hq1⟩ := h3.get ha
  have hq2 := hq1
  rw [he0] at hq0
  rw [he] at hq1
  refine va_copyi (ws := ws) (ty := .int) hx hb (hml.trans hl.1.symm) hown (hts _ w1) (hts _ w2) (hts _ w3) (hts _ w4) hK hP (h3.A hD hA) hS q0 q1 0 0 hq0 hq1 rfl rfl rfl hc.1 hc.2.1 hc.2.2.1 hc.2.2.2.1 hc.2.2.2.2 (fun _ _ => rfl) h1 h2 hdg (fun H1 locs1 hP1 hD1 hS1 => kk H1 locs1 ⟨⟨_, ?_, hP1, hD1.weaken (fun _ _ _ _ => trivial)⟩, hS1, hA, hZ, hi⟩)
  exact h3.set hi hD ha hq2 (by rw [mrow_self, he]) (fun j hj => by rw [mrow_ne hj])
noncomputable def f_X1_at (sh : Sh) (cl0 : Nat) (μ : Mm) (v1 : Int32) : Option (Int32) :=
  if v1 < 0 then some (0 : Int32) else (if (nI (sh 0 cl0)) ≤ v1 then some (0 : Int32) else (ck (sh 0 cl0) v1 (some (μ (12, cl0) v1.toNatClampNeg))))
noncomputable def f_X1_put (sh : Sh) (cl0 : Nat) (μ : Mm) (v1 v2 : Int32) : Option (Mm) :=
  if v1 < 0 then some μ else (if (nI (sh 0 cl0)) ≤ v1 then some μ else (ck (sh 0 cl0) v1 (some ((mst μ (12, cl0) v1.toNatClampNeg v2)))))
noncomputable def f_X1_addBits (sh : Sh) (cl0 : Nat) (μ : Mm) (v1 v2 : Int32) : Option (Mm) :=
  (f_X1_at sh cl0 μ v1).bind fun x4 => (f_X1_put sh cl0 μ v1 (x4 ||| v2)).bind fun x9 => some x9
noncomputable def f_X1_grow (sh : Sh) (cl0 : Nat) (μ : Mm) (v1 : Int32) : Option (Mm) :=
  if v1 ≤ (nI (sh 0 cl0)) then some μ else (none)
noncomputable def f_J7_rangeCheck_23922 (v0 v1 v2 : Int32) : Option (Unit) :=
  if v1 ≤ v2 then if 0 ≤ v1 then if v2 ≤ v0 then some () else (none) else (none) else (none)
noncomputable def f_J7_fill_fda19_L10 (n0 : Nat) (k0 : Ky) (v2 v3 : Int32) (μ : Mm) (v4 : Int32) : Option ((Mm × Int32) ⊕ (Mm)) :=
  if v2 ≤ v4 then Option.map Sum.inr (α := Mm) (some μ) else (ck n0 v4 (some (.inl ((mst μ k0 v4.toNatClampNeg v3), (v4 + (1 : Int32))))))
noncomputable def f_J7_fill_fda19 (n0 : Nat) (k0 : Ky) (μ : Mm) (v1 v2 v3 : Int32) : Option (Mm) :=
  (f_J7_rangeCheck_23922 (nI (n0)) v1 v2).bind fun x4 => Wh (fun z : Mm × Int32 => f_J7_fill_fda19_L10 n0 k0 v2 v3 z.1 z.2) (μ, v1)
noncomputable def f_X1_fill (sh : Sh) (cl0 : Nat) (μ : Mm) (v1 v2 : Int32) : Option (Mm) :=
  (f_J7_fill_fda19 (sh 0 cl0) (12, cl0) μ (0 : Int32) (if (0 : Int32) < (if (nI (sh 0 cl0)) < v2 then (nI (sh 0 cl0)) else v2) then (if (nI (sh 0 cl0)) < v2 then (nI (sh 0 cl0)) else v2) else (0 : Int32)) v1).bind fun x19 => some x19
noncomputable def f_X1_become (sh : Sh) (cl0 cl1 : Nat) (μ : Mm) (v2 : Int32) : Option (Mm) :=
  (f_X1_grow sh cl0 μ (if (0 : Int32) < (if (nI (sh 0 cl1)) < v2 then (nI (sh 0 cl1)) else v2) then (if (nI (sh 0 cl1)) < v2 then (nI (sh 0 cl1)) else v2) else (0 : Int32))).bind fun x21 => cc (sh 0 cl1) (sh 0 cl0) (0 : Int32) (0 : Int32) (if (0 : Int32) < (if (nI (sh 0 cl1)) < v2 then (nI (sh 0 cl1)) else v2) then (if (nI (sh 0 cl1)) < v2 then (nI (sh 0 cl1)) else v2) else (0 : Int32)) (some ((mrow x21 (12, cl0) (va_cpy (x21 (12, cl1)) (x21 (12, cl0)) (0 : Int32).toNatClampNeg (0 : Int32).toNatClampNeg (if (0 : Int32) < (if (nI (sh 0 cl1)) < v2 then (nI (sh 0 cl1)) else v2) then (if (nI (sh 0 cl1)) < v2 then (nI (sh 0 cl1)) else v2) else (0 : Int32)).toNatClampNeg))))
noncomputable def f_X2_lines (sh : Sh) (i0 : Nat) (μ : Mm) : Option (Int32) :=
  some (μ (14, i0) 1)
noncomputable def f_X2_joined (v0 v1 v2 : Int32) : Option (Int32) :=
  if v0 = (2000 : Int32) then some (v1 + v2) else (if v0 = (2001 : Int32) then if v2 ≤ v1 then some (0 : Int32) else (some (1 : Int32)) else (if v0 = (2002 : Int32) then if v1 ≤ v2 then some (0 : Int32) else (some (1 : Int32)) else (if v0 = (2003 : Int32) then some (v1 ||| v2) else (if v0 = (2004 : Int32) then some (v1 &&& v2) else (some (v1 ||| v2))))))
noncomputable def f_X2_total_L8 (sh : Sh) (i0 cl1 cl2 : Nat) (μ : Mm) (v3 v4 v5 : Int32) : Option ((Mm × Int32 × Int32 × Int32) ⊕ (Int32 × Mm)) :=
  if (nI (sh 1 i0)) ≤ v5 then Option.map Sum.inr (α := Int32 × Mm) (some (v3, μ)) else (ck (sh 1 i0) v5 (if (1000 : Int32) ≤ (μ (15, i0) v5.toNatClampNeg) then if (2000 : Int32) ≤ (μ (15, i0) v5.toNatClampNeg) then if (μ (15, i0) v5.toNatClampNeg) = (2003 : Int32) then (f_X1_at sh cl2 μ (v4 - (1 : Int32))).bind fun x98 => (f_X1_put sh cl2 μ (v4 - (1 : Int32)) ((1 : Int32) - x98)).bind fun x102 => some (.inl (x102, v3, v4, (v5 + (1 : Int32)))) else ((f_X1_at sh cl2 μ (v4 - (2 : Int32))).bind fun x113 => (f_X1_at sh cl2 μ (v4 - (1 : Int32))).bind fun x123 => if (μ (15, i0) v5.toNatClampNeg) = (2006 : Int32) then if x113 = (1 : Int32) then some (.inl (μ, (v3 + x123), (v4 + (-2 : Int32)), (v5 + (1 : Int32)))) else (some (.inl (μ, (v3 + (0 : Int32)), (v4 + (-2 : Int32)), (v5 + (1 : Int32))))) else ((f_X2_joined (μ (15, i0) v5.toNatClampNeg) x113 x123).bind fun x168 => (f_X1_put sh cl2 μ (v4 - (2 : Int32)) x168).bind fun x171 => some (.inl (x171, v3, (v4 + (-1 : Int32)), (v5 + (1 : Int32)))))) else ((f_X1_at sh cl1 μ ((μ (15, i0) v5.toNatClampNeg) - (1000 : Int32))).bind fun x67 => (f_X1_put sh cl2 μ v4 x67).bind fun x70 => some (.inl (x70, v3, (v4 + (1 : Int32)), (v5 + (1 : Int32))))) else ((f_X1_put sh cl2 μ v4 (μ (15, i0) v5.toNatClampNeg)).bind fun x40 => some (.inl (x40, v3, (v4 + (1 : Int32)), (v5 + (1 : Int32)))))))
noncomputable def f_X2_total (sh : Sh) (i0 cl1 cl2 : Nat) (μ : Mm) : Option (Int32 × Mm) :=
  Wh (fun z : Mm × Int32 × Int32 × Int32 => f_X2_total_L8 sh i0 cl1 cl2 z.1 z.2.1 z.2.2.1 z.2.2.2) (μ, (0 : Int32), (0 : Int32), (0 : Int32))
noncomputable def f_X6_become (sh : Sh) (j0 j1 : Nat) (μ : Mm) : Option (Mm) :=
  if j1 = j0 then some μ else ((some (mst (mst μ (13, j0) 0 (μ (13, j1) 0)) (13, j0) 1 ((mst μ (13, j0) 0 (μ (13, j1) 0)) (13, j1) 1))).bind fun μ2 => (some (mst (mst μ2 (13, j0) 2 (μ2 (13, j1) 2)) (13, j0) 3 ((mst μ2 (13, j0) 2 (μ2 (13, j1) 2)) (13, j1) 3))).bind fun μ3 => (some (mst (mst μ3 (13, j0) 4 (μ3 (13, j1) 4)) (13, j0) 5 ((mst μ3 (13, j0) 4 (μ3 (13, j1) 4)) (13, j1) 5))).bind fun μ4 => cb ((mst μ4 (13, j0) 6 (μ4 (13, j1) 6)) (13, j1) 7) ((some (mst (mst μ4 (13, j0) 6 (μ4 (13, j1) 6)) (13, j0) 7 ((mst μ4 (13, j0) 6 (μ4 (13, j1) 6)) (13, j1) 7))).bind fun μ6 => if sh 3 j1 = 0 then none else (none)))
noncomputable def f_X6_hasPerson (sh : Sh) (j0 : Nat) (μ : Mm) (v1 : Int32) : Option (Int32) :=
  if v1 < 0 then some (0 : Int32) else (if (μ (13, j0) 1) ≤ v1 then some (0 : Int32) else (some (1 : Int32)))
noncomputable def f_X6_hasNotice (sh : Sh) (j0 : Nat) (μ : Mm) (v1 : Int32) : Option (Int32) :=
  if v1 < 0 then some (0 : Int32) else (if (μ (13, j0) 0) ≤ v1 then some (0 : Int32) else (some (1 : Int32)))
noncomputable def f_X6_hasWorld (sh : Sh) (j0 : Nat) (μ : Mm) (v1 : Int32) : Option (Int32) :=
  if v1 < 0 then some (0 : Int32) else (if (μ (13, j0) 2) ≤ v1 then some (0 : Int32) else (some (1 : Int32)))
noncomputable def f_X6_hasSight (sh : Sh) (j0 : Nat) (μ : Mm) (v1 v2 : Int32) : Option (Int32) :=
  (f_X6_hasPerson sh j0 μ v2).bind fun x2 => if x2 = 0 then some (0 : Int32) else ((f_X1_at sh (15 + 5 * j0 + 1) μ v1).bind fun x13 => if ((x13 >>> (v2 &&& 31)) &&& (1 : Int32)) = (1 : Int32) then some (1 : Int32) else (some (0 : Int32)))
noncomputable def f_X6_stands (sh : Sh) (j0 : Nat) (μ : Mm) (v1 : Int32) : Option (Int32) :=
  (f_X1_at sh (15 + 5 * j0 + 2) μ v1).bind fun x5 => if x5 = (1 : Int32) then some (1 : Int32) else (some (0 : Int32))
noncomputable def f_X6_seers_L4 (sh : Sh) (j0 : Nat) (v1 : Int32) (μ : Mm) (v2 v3 : Int32) : Option ((Int32 × Int32) ⊕ (Int32)) :=
  if (μ (13, j0) 1) ≤ v3 then Option.map Sum.inr (α := Int32) (some v2) else ((f_X6_hasSight sh j0 μ v3 v1).bind fun x15 => if x15 = 0 then some (.inl (v2, (v3 + (1 : Int32)))) else (some (.inl ((v2 ||| ((1 : Int32) <<< (v3 &&& 31))), (v3 + (1 : Int32))))))
noncomputable def f_X6_seers (sh : Sh) (j0 : Nat) (μ : Mm) (v1 : Int32) : Option (Int32) :=
  Wh (fun z : Int32 × Int32 => f_X6_seers_L4 sh j0 v1 μ z.1 z.2) ((0 : Int32), (0 : Int32))
noncomputable def f_X6_figure (sh : Sh) (j0 : Nat) (μ : Mm) (v1 v2 : Int32) : Option (Int32) :=
  (f_X1_at sh (15 + 5 * j0 + 0) μ v2).bind fun x5 => if x5 ≤ 0 then some (0 : Int32) else (if (μ (13, j0) 0) ≤ 0 then some (0 : Int32) else (cd x5 (cd (μ (13, j0) 0) (some ((v1 / x5) - (v1 / x5) / (μ (13, j0) 0) * (μ (13, j0) 0))))))
noncomputable def f_X6_many_L5 (sh : Sh) (j0 : Nat) (v1 v2 : Int32) (μ : Mm) (v3 v4 : Int32) : Option ((Int32 × Int32) ⊕ (Int32)) :=
  if (μ (13, j0) 1) ≤ v4 then Option.map Sum.inr (α := Int32) (some v3) else ((f_X6_figure sh j0 μ v1 v4).bind fun x18 => if x18 = v2 then some (.inl ((v3 + (1 : Int32)), (v4 + (1 : Int32)))) else (some (.inl (v3, (v4 + (1 : Int32))))))
noncomputable def f_X6_many (sh : Sh) (j0 : Nat) (μ : Mm) (v1 v2 : Int32) : Option (Int32) :=
  Wh (fun z : Int32 × Int32 => f_X6_many_L5 sh j0 v1 v2 μ z.1 z.2) ((0 : Int32), (0 : Int32))
noncomputable def f_X6_group (sh : Sh) (j0 : Nat) (μ : Mm) (v1 v2 : Int32) : Option (Int32) :=
  (f_X1_at sh (15 + 5 * j0 + 3) μ ((v1 * (μ (13, j0) 2)) + v2)).bind fun x12 => some x12
noncomputable def f_X6_hasRoom (sh : Sh) (j0 : Nat) (μ : Mm) : Option (Int32) :=
  if (9 : Int32) ≤ (μ (13, j0) 1) then some (0 : Int32) else (if (512 : Int32) < ((μ (13, j0) 2) * (μ (13, j0) 0)) then some (0 : Int32) else (some (1 : Int32)))
noncomputable def f_X6_join_L2 (sh : Sh) (j0 : Nat) (v1 : Int32) (μ : Mm) (v2 : Int32) : Option ((Mm × Int32) ⊕ (Mm)) :=
  if (μ (13, j0) 1) ≤ v2 then Option.map Sum.inr (α := Mm) ((f_X1_put sh (15 + 5 * j0 + 0) μ (μ (13, j0) 1) (1 : Int32)).bind fun x46 => (f_X1_put sh (15 + 5 * j0 + 1) x46 (x46 (13, j0) 1) (0 : Int32)).bind fun x58 => (some (mst (mst x58 (13, j0) 1 ((x58 (13, j0) 1) + (1 : Int32))) (13, j0) 2 (((mst x58 (13, j0) 1 ((x58 (13, j0) 1) + (1 : Int32))) (13, j0) 2) * ((mst x58 (13, j0) 1 ((x58 (13, j0) 1) + (1 : Int32))) (13, j0) 0)))).bind fun μ2 => (f_X1_grow sh (15 + 5 * j0 + 2) (mst μ2 (13, j0) 3 (((μ2 (13, j0) 3) * (μ2 (13, j0) 0)) + v1)) ((mst μ2 (13, j0) 3 (((μ2 (13, j0) 3) * (μ2 (13, j0) 0)) + v1)) (13, j0) 2)).bind fun x107 => (f_X1_fill sh (15 + 5 * j0 + 2) x107 (1 : Int32) (x107 (13, j0) 2)).bind fun x119 => (f_X1_grow sh (15 + 5 * j0 + 3) x119 ((x119 (13, j0) 1) * (x119 (13, j0) 2))).bind fun x135 => (f_X1_fill sh (15 + 5 * j0 + 3) x135 (0 : Int32) ((x135 (13, j0) 1) * (x135 (13, j0) 2))).bind fun x152 => some x152) else ((f_X1_at sh (15 + 5 * j0 + 0) μ v2).bind fun x20 => (f_X1_put sh (15 + 5 * j0 + 0) μ v2 (x20 * (μ (13, j0) 0))).bind fun x28 => some (.inl (x28, (v2 + (1 : Int32)))))
noncomputable def f_X6_join (sh : Sh) (j0 : Nat) (μ : Mm) (v1 : Int32) : Option (Mm) :=
  Wh (fun z : Mm × Int32 => f_X6_join_L2 sh j0 v1 z.1 z.2) (μ, (0 : Int32))
noncomputable def f_X6_draw (sh : Sh) (j0 : Nat) (μ : Mm) : Option (Int32 × Mm) :=
  some (((((mst μ (13, j0) 5 (((1103515245 : Int32) * (μ (13, j0) 5)) + (12345 : Int32))) (13, j0) 5).toUInt32 >>> ((16 : Int32).toUInt32 &&& Int32.toUInt32 31)).toInt32 &&& (32767 : Int32)), (mst μ (13, j0) 5 (((1103515245 : Int32) * (μ (13, j0) 5)) + (12345 : Int32))))
noncomputable def f_X6_note (sh : Sh) (j0 : Nat) (μ : Mm) (v1 v2 v3 v4 v5 : Int32) : Option (Mm) :=
  (f_X1_grow sh (15 + 5 * j0 + 4) μ (300 : Int32)).bind fun x7 => (f_X1_put sh (15 + 5 * j0 + 4) x7 ((x7 (13, j0) 15) * (5 : Int32)) v1).bind fun x25 => (f_X1_put sh (15 + 5 * j0 + 4) x25 (((x7 (13, j0) 15) * (5 : Int32)) + (1 : Int32)) v2).bind fun x37 => (f_X1_put sh (15 + 5 * j0 + 4) x37 (((x7 (13, j0) 15) * (5 : Int32)) + (2 : Int32)) v3).bind fun x49 => (f_X1_put sh (15 + 5 * j0 + 4) x49 (((x7 (13, j0) 15) * (5 : Int32)) + (3 : Int32)) v4).bind fun x62 => (f_X1_put sh (15 + 5 * j0 + 4) x62 (((x7 (13, j0) 15) * (5 : Int32)) + (4 : Int32)) v5).bind fun x75 => if (60 : Int32) ≤ ((x75 (13, j0) 15) + (1 : Int32)) then (some (mst (mst x75 (13, j0) 15 (0 : Int32)) (13, j0) 14 (if (60 : Int32) < (((mst x75 (13, j0) 15 (0 : Int32)) (13, j0) 14) + (1 : Int32)) then (60 : Int32) else (((mst x75 (13, j0) 15 (0 : Int32)) (13, j0) 14) + (1 : Int32))))).bind fun μ2 => some μ2 else ((some (mst (mst x75 (13, j0) 15 ((x75 (13, j0) 15) + (1 : Int32))) (13, j0) 14 (if (60 : Int32) < (((mst x75 (13, j0) 15 ((x75 (13, j0) 15) + (1 : Int32))) (13, j0) 14) + (1 : Int32)) then (60 : Int32) else (((mst x75 (13, j0) 15 ((x75 (13, j0) 15) + (1 : Int32))) (13, j0) 14) + (1 : Int32))))).bind fun μ3 => some μ3)
noncomputable def f_X6_noted (sh : Sh) (j0 : Nat) (μ : Mm) (v1 v2 : Int32) : Option (Int32) :=
  if v1 < 0 then some (-1 : Int32) else (if v1 < (μ (13, j0) 14) then if 0 ≤ (((μ (13, j0) 15) - (1 : Int32)) - v1) then (f_X1_at sh (15 + 5 * j0 + 4) μ (((((μ (13, j0) 15) - (1 : Int32)) - v1) * (5 : Int32)) + v2)).bind fun x43 => some x43 else ((f_X1_at sh (15 + 5 * j0 + 4) μ ((((((μ (13, j0) 15) - (1 : Int32)) - v1) + (60 : Int32)) * (5 : Int32)) + v2)).bind fun x43 => some x43) else (some (-1 : Int32)))
noncomputable def f_X7_size (sh : Sh) (μ : Mm) : Option (Int32) :=
  some (μ (2, 0) 1)
noncomputable def f_X7_hasRoomFor (sh : Sh) (μ : Mm) (v1 : Int32) : Option (Int32) :=
  if (400 : Int32) < ((μ (2, 0) 1) + v1) then some (0 : Int32) else (some (1 : Int32))
noncomputable def f_X7_put_L3 (sh : Sh) (v1 : Int32) (μ : Mm) (v2 : Int32) : Option ((Mm × Int32) ⊕ (Mm)) :=
  if v2 < 0 then Option.map Sum.inr (α := Mm) (some μ) else (if (400 : Int32) ≤ (μ (2, 0) 1) then some (.inl (μ, (v2 + (-8 : Int32)))) else ((f_X1_put sh 0 μ (μ (2, 0) 1) ((v1.toUInt32 >>> (v2.toUInt32 &&& Int32.toUInt32 31)).toInt32 &&& (255 : Int32))).bind fun x32 => some (.inl ((mst x32 (2, 0) 1 ((x32 (2, 0) 1) + (1 : Int32))), (v2 + (-8 : Int32))))))
noncomputable def f_X7_put (sh : Sh) (μ : Mm) (v1 : Int32) : Option (Mm) :=
  Wh (fun z : Mm × Int32 => f_X7_put_L3 sh v1 z.1 z.2) (μ, (24 : Int32))
noncomputable def f_X7_cut (sh : Sh) (μ : Mm) (v1 : Int32) : Option (Int32 × Mm) :=
  if v1 < 0 then some ((0 : Int32), μ) else (if v1 ≤ (μ (2, 0) 1) then some ((1 : Int32), (mst μ (2, 0) 1 v1)) else (some ((0 : Int32), μ)))
noncomputable def f_X7_use (sh : Sh) (μ : Mm) : Option (Int32 × Mm) :=
  some ((μ (2, 0) 1), (mst μ (2, 0) 1 (0 : Int32)))
noncomputable def f_X7_byteAt (sh : Sh) (μ : Mm) (v1 : Int32) : Option (Int32) :=
  (f_X1_at sh 0 μ v1).bind fun x5 => some x5
noncomputable def f_X4_possibleBits_L15 (sh : Sh) (j1 cl2 : Nat) (v3 v4 v6 : Int32) (μ : Mm) (v7 v8 : Int32) : Option ((Int32 × Int32) ⊕ (Int32)) :=
  if (μ (13, j1) 2) ≤ v8 then Option.map Sum.inr (α := Int32) (some v7) else ((f_X1_at sh cl2 μ v8).bind fun x27 => if x27 = (1 : Int32) then (f_X6_group sh j1 μ v3 v8).bind fun x38 => if x38 = v6 then (f_X6_figure sh j1 μ v8 v4).bind fun x54 => some (.inl ((v7 ||| ((1 : Int32) <<< (x54 &&& 31))), (v8 + (1 : Int32)))) else (some (.inl (v7, (v8 + (1 : Int32))))) else (some (.inl (v7, (v8 + (1 : Int32))))))
noncomputable def f_X4_possibleBits (sh : Sh) (j1 cl2 : Nat) (μ : Mm) (v3 v4 v5 : Int32) : Option (Int32) :=
  (f_X6_group sh j1 μ v3 v5).bind fun x4 => Wh (fun z : Int32 × Int32 => f_X4_possibleBits_L15 sh j1 cl2 v3 v4 x4 μ z.1 z.2) ((0 : Int32), (0 : Int32))
noncomputable def f_X4_onlyOne (v1 : Int32) : Option (Int32) :=
  (f_J6_bitCount_0f7a4 v1).bind fun x1 => if x1 = (1 : Int32) then (f_J6_numberOfTrailingZeros_0f7a4 v1).bind fun x9 => some x9 else (some (-1 : Int32))
noncomputable def f_X4_isSure (sh : Sh) (j1 cl2 : Nat) (μ : Mm) (v3 v4 : Int32) : Option (Int32) :=
  (f_X4_possibleBits sh j1 cl2 μ v3 v3 v4).bind fun x8 => (f_X4_onlyOne x8).bind fun x11 => if x11 = (-1 : Int32) then some (0 : Int32) else (some (1 : Int32))
noncomputable def f_X4_sureBits_L5 (sh : Sh) (j1 cl2 : Nat) (μ : Mm) (v3 v4 : Int32) : Option ((Int32 × Int32) ⊕ (Int32)) :=
  if (μ (13, j1) 1) ≤ v4 then Option.map Sum.inr (α := Int32) (some v3) else ((f_X4_possibleBits sh j1 cl2 μ v4 v4 (μ (13, j1) 3)).bind fun x26 => (f_X4_onlyOne x26).bind fun x29 => if x29 = (-1 : Int32) then some (.inl (v3, (v4 + (1 : Int32)))) else (some (.inl ((v3 ||| ((1 : Int32) <<< (v4 &&& 31))), (v4 + (1 : Int32))))))
noncomputable def f_X4_sureBits (sh : Sh) (j1 cl2 : Nat) (μ : Mm) : Option (Int32) :=
  Wh (fun z : Int32 × Int32 => f_X4_sureBits_L5 sh j1 cl2 μ z.1 z.2) ((0 : Int32), (0 : Int32))
noncomputable def f_X4_knownBits_L5 (sh : Sh) (j1 : Nat) (v2 : Int32) (μ : Mm) (v3 v4 : Int32) : Option ((Int32 × Int32) ⊕ (Int32)) :=
  if (μ (13, j1) 1) ≤ v4 then Option.map Sum.inr (α := Int32) (some v3) else ((f_X4_possibleBits sh j1 (15 + 5 * j1 + 2) μ v2 v4 (μ (13, j1) 3)).bind fun x28 => (f_X4_onlyOne x28).bind fun x31 => if x31 = (-1 : Int32) then some (.inl (v3, (v4 + (1 : Int32)))) else (some (.inl ((v3 ||| ((1 : Int32) <<< (v4 &&& 31))), (v4 + (1 : Int32))))))
noncomputable def f_X4_knownBits (sh : Sh) (j1 : Nat) (μ : Mm) (v2 : Int32) : Option (Int32) :=
  Wh (fun z : Int32 × Int32 => f_X4_knownBits_L5 sh j1 v2 μ z.1 z.2) ((0 : Int32), (0 : Int32))
noncomputable def f_X4_manyPossible_L5 (sh : Sh) (j1 : Nat) (v2 : Int32) (μ : Mm) (v3 v4 : Int32) : Option ((Int32 × Int32) ⊕ (Int32)) :=
  if (μ (13, j1) 1) ≤ v4 then Option.map Sum.inr (α := Int32) (some v3) else ((f_X4_possibleBits sh j1 (15 + 5 * j1 + 2) μ v2 v4 (μ (13, j1) 3)).bind fun x28 => (f_J6_bitCount_0f7a4 x28).bind fun x31 => some (.inl ((v3 + x31), (v4 + (1 : Int32)))))
noncomputable def f_X4_manyPossible (sh : Sh) (j1 : Nat) (μ : Mm) (v2 : Int32) : Option (Int32) :=
  Wh (fun z : Int32 × Int32 => f_X4_manyPossible_L5 sh j1 v2 μ z.1 z.2) ((0 : Int32), (0 : Int32))
noncomputable def f_X4_manyLeft_L4 (sh : Sh) (j1 : Nat) (μ : Mm) (v2 v3 : Int32) : Option ((Int32 × Int32) ⊕ (Int32)) :=
  if (μ (13, j1) 2) ≤ v3 then Option.map Sum.inr (α := Int32) (some v2) else ((f_X6_stands sh j1 μ v3).bind fun x15 => if x15 = 0 then some (.inl ((v2 + (0 : Int32)), (v3 + (1 : Int32)))) else (some (.inl ((v2 + (1 : Int32)), (v3 + (1 : Int32))))))
noncomputable def f_X4_manyLeft (sh : Sh) (j1 : Nat) (μ : Mm) : Option (Int32) :=
  Wh (fun z : Int32 × Int32 => f_X4_manyLeft_L4 sh j1 μ z.1 z.2) ((0 : Int32), (0 : Int32))
noncomputable def f_X4_holdsWorld (sh : Sh) (j1 : Nat) (μ : Mm) (v2 v3 : Int32) : Option (Int32) :=
  (f_X6_stands sh j1 μ v3).bind fun x2 => if x2 = 0 then some (0 : Int32) else ((f_X6_group sh j1 μ v2 v3).bind fun x11 => (f_X6_group sh j1 μ v2 (μ (13, j1) 3)).bind fun x20 => if x11 = x20 then some (1 : Int32) else (some (0 : Int32)))
noncomputable def f_X4_holds_L5 (sh : Sh) (j1 : Nat) (v2 : Int32) (μ : Mm) (v3 v4 : Int32) : Option ((Int32 × Int32) ⊕ (Int32)) :=
  if (μ (13, j1) 2) ≤ v4 then Option.map Sum.inr (α := Int32) (some v3) else ((f_X4_holdsWorld sh j1 μ v2 v4).bind fun x20 => if x20 = 0 then some (.inl ((v3 + (0 : Int32)), (v4 + (1 : Int32)))) else (some (.inl ((v3 + (1 : Int32)), (v4 + (1 : Int32))))))
noncomputable def f_X4_holds (sh : Sh) (j1 : Nat) (μ : Mm) (v2 : Int32) : Option (Int32) :=
  Wh (fun z : Int32 × Int32 => f_X4_holds_L5 sh j1 v2 μ z.1 z.2) ((0 : Int32), (0 : Int32))
noncomputable def f_X4_heldAt_L6 (sh : Sh) (j1 : Nat) (v2 v3 : Int32) (μ : Mm) (v4 v5 : Int32) : Option ((Int32 × Int32) ⊕ (Int32)) :=
  if (μ (13, j1) 2) ≤ v5 then Option.map Sum.inr (α := Int32) (some (-1 : Int32)) else (if v2 = (-1 : Int32) then (f_X6_stands sh j1 μ v5).bind fun x23 => if x23 = 0 then some (.inl (v4, (v5 + (1 : Int32)))) else (if v4 = v3 then Option.map Sum.inr (α := Int32) (some v5) else (some (.inl ((v4 + (1 : Int32)), (v5 + (1 : Int32)))))) else ((f_X4_holdsWorld sh j1 μ v2 v5).bind fun x37 => if x37 = 0 then some (.inl (v4, (v5 + (1 : Int32)))) else (if v4 = v3 then Option.map Sum.inr (α := Int32) (some v5) else (some (.inl ((v4 + (1 : Int32)), (v5 + (1 : Int32))))))))
noncomputable def f_X4_heldAt (sh : Sh) (j1 : Nat) (μ : Mm) (v2 v3 : Int32) : Option (Int32) :=
  Wh (fun z : Int32 × Int32 => f_X4_heldAt_L6 sh j1 v2 v3 μ z.1 z.2) ((0 : Int32), (0 : Int32))
noncomputable def f_X4_spot_L15 (sh : Sh) (j1 cl2 : Nat) (v3 v4 : Int32) (μ : Mm) (v5 : Int32) : Option ((Mm × Int32) ⊕ (Mm)) :=
  if (μ (13, j1) 2) ≤ v5 then Option.map Sum.inr (α := Mm) (some μ) else ((f_X1_at sh cl2 μ v5).bind fun x27 => if x27 = (1 : Int32) then (f_X6_group sh j1 μ v3 v5).bind fun x42 => (f_X6_figure sh j1 μ v5 v4).bind fun x51 => (f_X1_addBits sh 2 μ x42 ((1 : Int32) <<< (x51 &&& 31))).bind fun x55 => some (.inl (x55, (v5 + (1 : Int32)))) else (some (.inl (μ, (v5 + (1 : Int32))))))
noncomputable def f_X4_spot (sh : Sh) (j1 cl2 : Nat) (μ : Mm) (v3 v4 : Int32) : Option (Mm) :=
  (f_X1_fill sh 2 μ (0 : Int32) (μ (13, j1) 2)).bind fun x9 => Wh (fun z : Mm × Int32 => f_X4_spot_L15 sh j1 cl2 v3 v4 z.1 z.2) (x9, (0 : Int32))
noncomputable def f_X4_spotted (sh : Sh) (j1 : Nat) (μ : Mm) (v2 v3 : Int32) : Option (Int32) :=
  (f_X6_group sh j1 μ v2 v3).bind fun x7 => (f_X1_at sh 2 μ x7).bind fun x10 => some x10
noncomputable def f_X4_knowsThat_L15 (sh : Sh) (j1 : Nat) (v2 v3 : Int32) (μ : Mm) (v5 : Int32) : Option ((Int32) ⊕ (Int32 × Mm)) :=
  if (μ (13, j1) 2) ≤ v5 then Option.map Sum.inr (α := Int32 × Mm) (some ((1 : Int32), μ)) else ((f_X4_holdsWorld sh j1 μ v2 v5).bind fun x29 => if x29 = 0 then some (.inl ((v5 + (1 : Int32)))) else ((f_X4_spotted sh j1 μ v3 v5).bind fun x41 => (f_X4_onlyOne x41).bind fun x44 => if x44 = (-1 : Int32) then Option.map Sum.inr (α := Int32 × Mm) (some ((0 : Int32), μ)) else (some (.inl ((v5 + (1 : Int32)))))))
noncomputable def f_X4_knowsThat (sh : Sh) (j1 : Nat) (μ : Mm) (v2 v3 v4 : Int32) : Option (Int32 × Mm) :=
  (f_X4_spot sh j1 (15 + 5 * j1 + 2) μ v3 v4).bind fun x9 => Wh (fun z : Int32 => f_X4_knowsThat_L15 sh j1 v2 v3 x9 z) ((0 : Int32))
noncomputable def f_X4_spread_L59 (sh : Sh) (j1 : Nat) (v2 : Int32) (μ : Mm) (v3 v4 : Int32) : Option ((Mm × Int32 × Int32) ⊕ (Int32 × Mm)) :=
  if (μ (13, j1) 2) ≤ v4 then Option.map Sum.inr (α := Int32 × Mm) (cb v3 (some (v3, μ))) else ((f_X6_stands sh j1 μ v4).bind fun x71 => if x71 = 0 then some (.inl (μ, v3, (v4 + (1 : Int32)))) else ((f_X1_at sh 5 μ v4).bind fun x83 => if x83 = 0 then (f_X4_spotted sh j1 μ v2 v4).bind fun x94 => if x94 = (1 : Int32) then (f_X1_put sh 5 μ v4 (1 : Int32)).bind fun x108 => some (.inl (x108, (1 : Int32), (v4 + (1 : Int32)))) else (some (.inl (μ, v3, (v4 + (1 : Int32))))) else (some (.inl (μ, v3, (v4 + (1 : Int32)))))))
noncomputable def f_X4_spread_L14 (sh : Sh) (j1 : Nat) (v2 : Int32) (μ : Mm) (v3 : Int32) : Option ((Mm × Int32) ⊕ (Int32 × Mm)) :=
  if (μ (13, j1) 2) ≤ v3 then Option.map Sum.inr (α := Int32 × Mm) (Wh (fun z : Mm × Int32 × Int32 => f_X4_spread_L59 sh j1 v2 z.1 z.2.1 z.2.2) (μ, (0 : Int32), (0 : Int32))) else ((f_X1_at sh 5 μ v3).bind fun x27 => if x27 = (1 : Int32) then (f_X6_group sh j1 μ v2 v3).bind fun x41 => (f_X1_put sh 2 μ x41 (1 : Int32)).bind fun x45 => some (.inl (x45, (v3 + (1 : Int32)))) else (some (.inl (μ, (v3 + (1 : Int32))))))
noncomputable def f_X4_spread (sh : Sh) (j1 : Nat) (μ : Mm) (v2 : Int32) : Option (Int32 × Mm) :=
  (f_X1_fill sh 2 μ (0 : Int32) (μ (13, j1) 2)).bind fun x9 => Wh (fun z : Mm × Int32 => f_X4_spread_L14 sh j1 v2 z.1 z.2) (x9, (0 : Int32))
noncomputable def f_X4_knownByAll_L84 (sh : Sh) (j1 : Nat) (v2 : Int32) (μ : Mm) (v4 v5 : Int32) : Option ((Int32 × Int32) ⊕ (Int32 × Mm)) :=
  if (μ (13, j1) 2) ≤ v5 then Option.map Sum.inr (α := Int32 × Mm) ((f_X4_onlyOne v4).bind fun x129 => some (x129, μ)) else ((f_X1_at sh 5 μ v5).bind fun x99 => if x99 = (1 : Int32) then (f_X6_figure sh j1 μ v5 v2).bind fun x113 => some (.inl ((v4 ||| ((1 : Int32) <<< (x113 &&& 31))), (v5 + (1 : Int32)))) else (some (.inl (v4, (v5 + (1 : Int32))))))
noncomputable def f_X4_knownByAll_J78 (sh : Sh) (j1 : Nat) (μ : Mm) (v2 : Int32) : Option (Int32 × Mm) :=
  Wh (fun z : Int32 × Int32 => f_X4_knownByAll_L84 sh j1 v2 μ z.1 z.2) ((0 : Int32), (0 : Int32))
noncomputable def f_X4_knownByAll_L47 (sh : Sh) (j1 : Nat) (v2 v4 : Int32) (μ : Mm) (v3 v5 : Int32) : Option ((Mm × Int32 × Int32) ⊕ ((Mm × Int32 × Int32) ⊕ (Int32 × Mm))) :=
  if (μ (13, j1) 1) ≤ v5 then Option.map Sum.inr (α := (Mm × Int32 × Int32) ⊕ (Int32 × Mm)) (some (.inl (μ, v3, (v4 + (1 : Int32))))) else ((f_X4_spread sh j1 μ v5).bind fun x61 => some (.inl (x61.2, (v3 ||| x61.1), (v5 + (1 : Int32)))))
noncomputable def f_X4_knownByAll_L29 (sh : Sh) (j1 : Nat) (v2 : Int32) (μ : Mm) (v3 v4 : Int32) : Option ((Mm × Int32 × Int32) ⊕ (Int32 × Mm)) :=
  if (μ (13, j1) 2) ≤ v4 then Option.map Sum.inr (α := Int32 × Mm) (f_X4_knownByAll_J78 sh j1 μ v2) else (if v3 = 0 then Option.map Sum.inr (α := Int32 × Mm) (f_X4_knownByAll_J78 sh j1 μ v2) else (Wh (fun z : Mm × Int32 × Int32 => f_X4_knownByAll_L47 sh j1 v2 v4 z.1 z.2.1 z.2.2) (μ, (0 : Int32), (0 : Int32))))
noncomputable def f_X4_knownByAll (sh : Sh) (j1 : Nat) (μ : Mm) (v2 : Int32) : Option (Int32 × Mm) :=
  (f_X1_fill sh 5 μ (0 : Int32) (μ (13, j1) 2)).bind fun x9 => (f_X1_put sh 5 x9 (x9 (13, j1) 3) (1 : Int32)).bind fun x21 => Wh (fun z : Mm × Int32 × Int32 => f_X4_knownByAll_L29 sh j1 v2 z.1 z.2.1 z.2.2) (x21, (1 : Int32), (0 : Int32))
noncomputable def f_X4_sayNotice_L2 (sh : Sh) (j1 : Nat) (v2 : Int32) (μ : Mm) (v3 : Int32) : Option ((Mm × Int32) ⊕ (Mm)) :=
  if (μ (13, j1) 2) ≤ v3 then Option.map Sum.inr (α := Mm) (some μ) else ((f_X6_figure sh j1 μ v3 v2).bind fun x18 => (f_X1_put sh 4 μ v3 x18).bind fun x21 => some (.inl (x21, (v3 + (1 : Int32)))))
noncomputable def f_X4_sayNotice (sh : Sh) (j1 : Nat) (μ : Mm) (v2 : Int32) : Option (Mm) :=
  Wh (fun z : Mm × Int32 => f_X4_sayNotice_L2 sh j1 v2 z.1 z.2) (μ, (0 : Int32))
noncomputable def f_X4_sayWhetherMany_L3 (sh : Sh) (j1 : Nat) (v2 v3 v4 : Int32) (μ : Mm) (v5 : Int32) : Option ((Mm × Int32) ⊕ (Mm)) :=
  if (μ (13, j1) 2) ≤ v5 then Option.map Sum.inr (α := Mm) (some μ) else ((f_X6_many sh j1 μ v5 v3).bind fun x16 => if v4 = 0 then if v2 < x16 then (f_X1_put sh 4 μ v5 (0 : Int32)).bind fun x52 => some (.inl (x52, (v5 + (1 : Int32)))) else ((f_X1_put sh 4 μ v5 (1 : Int32)).bind fun x52 => some (.inl (x52, (v5 + (1 : Int32))))) else (if x16 < v2 then (f_X1_put sh 4 μ v5 (0 : Int32)).bind fun x52 => some (.inl (x52, (v5 + (1 : Int32)))) else ((f_X1_put sh 4 μ v5 (1 : Int32)).bind fun x52 => some (.inl (x52, (v5 + (1 : Int32)))))))
noncomputable def f_X4_sayWhetherMany (sh : Sh) (j1 : Nat) (μ : Mm) (v2 v3 v4 : Int32) : Option (Mm) :=
  Wh (fun z : Mm × Int32 => f_X4_sayWhetherMany_L3 sh j1 v2 v3 v4 z.1 z.2) (μ, (0 : Int32))
noncomputable def f_X4_sayWhetherAlike_L3 (sh : Sh) (j1 : Nat) (v2 v3 v4 : Int32) (μ : Mm) (v5 : Int32) : Option ((Mm × Int32) ⊕ (Mm)) :=
  if (μ (13, j1) 2) ≤ v5 then Option.map Sum.inr (α := Mm) (some μ) else ((f_X6_figure sh j1 μ v5 v2).bind fun x22 => (f_X6_figure sh j1 μ v5 v3).bind fun x29 => if x22 = x29 then if (1 : Int32) = v4 then (f_X1_put sh 4 μ v5 (1 : Int32)).bind fun x50 => some (.inl (x50, (v5 + (1 : Int32)))) else ((f_X1_put sh 4 μ v5 (0 : Int32)).bind fun x50 => some (.inl (x50, (v5 + (1 : Int32))))) else (if (0 : Int32) = v4 then (f_X1_put sh 4 μ v5 (1 : Int32)).bind fun x50 => some (.inl (x50, (v5 + (1 : Int32)))) else ((f_X1_put sh 4 μ v5 (0 : Int32)).bind fun x50 => some (.inl (x50, (v5 + (1 : Int32)))))))
noncomputable def f_X4_sayWhetherAlike (sh : Sh) (j1 : Nat) (μ : Mm) (v2 v3 v4 : Int32) : Option (Mm) :=
  Wh (fun z : Mm × Int32 => f_X4_sayWhetherAlike_L3 sh j1 v2 v3 v4 z.1 z.2) (μ, (0 : Int32))
noncomputable def f_X4_sayWhetherSure_L13 (sh : Sh) (j1 : Nat) (v2 : Int32) (μ : Mm) (v3 : Int32) : Option ((Mm × Int32) ⊕ (Mm)) :=
  if (μ (13, j1) 2) ≤ v3 then Option.map Sum.inr (α := Mm) (some μ) else ((f_X4_spotted sh j1 μ v2 v3).bind fun x31 => (f_X4_onlyOne x31).bind fun x34 => if x34 = (-1 : Int32) then (f_X1_put sh 4 μ v3 (0 : Int32)).bind fun x46 => some (.inl (x46, (v3 + (1 : Int32)))) else ((f_X1_put sh 4 μ v3 (1 : Int32)).bind fun x46 => some (.inl (x46, (v3 + (1 : Int32))))))
noncomputable def f_X4_sayWhetherSure (sh : Sh) (j1 : Nat) (μ : Mm) (v2 : Int32) : Option (Mm) :=
  (f_X4_spot sh j1 (15 + 5 * j1 + 2) μ v2 v2).bind fun x8 => Wh (fun z : Mm × Int32 => f_X4_sayWhetherSure_L13 sh j1 v2 z.1 z.2) (x8, (0 : Int32))
noncomputable def f_X4_sayWhoIsSure_L33 (sh : Sh) (j1 cl2 : Nat) (v3 : Int32) (μ : Mm) (v4 : Int32) : Option ((Mm × Int32) ⊕ ((Mm × Int32) ⊕ (Mm))) :=
  if (μ (13, j1) 2) ≤ v4 then Option.map Sum.inr (α := (Mm × Int32) ⊕ (Mm)) (some (.inl (μ, (v3 + (1 : Int32))))) else ((f_X4_spotted sh j1 μ v3 v4).bind fun x48 => (f_X4_onlyOne x48).bind fun x51 => if x51 = (-1 : Int32) then some (.inl (μ, (v4 + (1 : Int32)))) else ((f_X1_addBits sh 4 μ v4 ((1 : Int32) <<< (v3 &&& 31))).bind fun x67 => some (.inl (x67, (v4 + (1 : Int32))))))
noncomputable def f_X4_sayWhoIsSure_L14 (sh : Sh) (j1 cl2 : Nat) (μ : Mm) (v3 : Int32) : Option ((Mm × Int32) ⊕ (Mm)) :=
  if (μ (13, j1) 1) ≤ v3 then Option.map Sum.inr (α := Mm) (some μ) else ((f_X4_spot sh j1 cl2 μ v3 v3).bind fun x27 => Wh (fun z : Mm × Int32 => f_X4_sayWhoIsSure_L33 sh j1 cl2 v3 z.1 z.2) (x27, (0 : Int32)))
noncomputable def f_X4_sayWhoIsSure (sh : Sh) (j1 cl2 : Nat) (μ : Mm) : Option (Mm) :=
  (f_X1_fill sh 4 μ (0 : Int32) (μ (13, j1) 2)).bind fun x9 => Wh (fun z : Mm × Int32 => f_X4_sayWhoIsSure_L14 sh j1 cl2 z.1 z.2) (x9, (0 : Int32))
noncomputable def f_X4_sayAnswer_L18 (sh : Sh) (j1 cl2 : Nat) (v3 v6 : Int32) (μ : Mm) (v7 : Int32) : Option ((Mm × Int32) ⊕ (Mm)) :=
  if (μ (13, j1) 2) ≤ v7 then Option.map Sum.inr (α := Mm) (some μ) else ((f_X4_spotted sh j1 μ v3 v7).bind fun x32 => if x32 = v6 then (f_X1_put sh 4 μ v7 (1 : Int32)).bind fun x67 => some (.inl (x67, (v7 + (1 : Int32)))) else (if (x32 &&& v6) = 0 then (f_X1_put sh 4 μ v7 (0 : Int32)).bind fun x67 => some (.inl (x67, (v7 + (1 : Int32)))) else ((f_X1_put sh 4 μ v7 (2 : Int32)).bind fun x67 => some (.inl (x67, (v7 + (1 : Int32)))))))
noncomputable def f_X4_sayAnswer (sh : Sh) (j1 cl2 : Nat) (μ : Mm) (v3 v4 v5 : Int32) : Option (Mm) :=
  (f_X4_spot sh j1 cl2 μ v3 v4).bind fun x6 => Wh (fun z : Mm × Int32 => f_X4_sayAnswer_L18 sh j1 cl2 v3 ((1 : Int32) <<< (v5 &&& 31)) z.1 z.2) (x6, (0 : Int32))
noncomputable def f_X4_saidIn (sh : Sh) (μ : Mm) (v1 : Int32) : Option (Int32) :=
  (f_X1_at sh 4 μ v1).bind fun x5 => some x5
noncomputable def f_X4_sureIfHeard_L30 (sh : Sh) (j1 cl2 : Nat) (v3 v4 v5 : Int32) (μ : Mm) (v6 v7 : Int32) : Option ((Int32 × Int32) ⊕ (Int32)) :=
  if (μ (13, j1) 2) ≤ v7 then Option.map Sum.inr (α := Int32) ((f_X4_onlyOne v6).bind fun x98 => if x98 = (-1 : Int32) then some (0 : Int32) else (some (1 : Int32))) else ((f_X1_at sh cl2 μ v7).bind fun x42 => if x42 = (1 : Int32) then (f_X1_at sh 4 μ v7).bind fun x55 => if x55 = v5 then (f_X6_group sh j1 μ v3 v7).bind fun x67 => if x67 = v4 then (f_X6_figure sh j1 μ v7 v3).bind fun x82 => some (.inl ((v6 ||| ((1 : Int32) <<< (x82 &&& 31))), (v7 + (1 : Int32)))) else (some (.inl (v6, (v7 + (1 : Int32))))) else (some (.inl (v6, (v7 + (1 : Int32))))) else (some (.inl (v6, (v7 + (1 : Int32))))))
noncomputable def f_X4_sureIfHeard (sh : Sh) (j1 cl2 : Nat) (μ : Mm) (v3 : Int32) : Option (Int32) :=
  (f_X6_group sh j1 μ v3 (μ (13, j1) 3)).bind fun x6 => (f_X1_at sh 4 μ (μ (13, j1) 3)).bind fun x19 => Wh (fun z : Int32 × Int32 => f_X4_sureIfHeard_L30 sh j1 cl2 v3 x6 x19 μ z.1 z.2) ((0 : Int32), (0 : Int32))
noncomputable def f_X4_heed_L18 (sh : Sh) (j1 cl2 : Nat) (v3 : Int32) (μ : Mm) (v4 v5 : Int32) : Option ((Mm × Int32 × Int32) ⊕ (Int32 × Mm)) :=
  if (μ (13, j1) 2) ≤ v5 then Option.map Sum.inr (α := Int32 × Mm) (cb v4 (some (v4, μ))) else ((f_X1_at sh cl2 μ v5).bind fun x30 => if x30 = (1 : Int32) then (f_X1_at sh 4 μ v5).bind fun x43 => if x43 = v3 then some (.inl (μ, v4, (v5 + (1 : Int32)))) else ((f_X1_put sh cl2 μ v5 (0 : Int32)).bind fun x54 => some (.inl (x54, (1 : Int32), (v5 + (1 : Int32))))) else (some (.inl (μ, v4, (v5 + (1 : Int32))))))
noncomputable def f_X4_heed (sh : Sh) (j1 cl2 : Nat) (μ : Mm) : Option (Int32 × Mm) :=
  (f_X1_at sh 4 μ (μ (13, j1) 3)).bind fun x8 => Wh (fun z : Mm × Int32 × Int32 => f_X4_heed_L18 sh j1 cl2 x8 z.1 z.2.1 z.2.2) (μ, (0 : Int32), (0 : Int32))
noncomputable def f_X4_daysUntilSure_J59 (sh : Sh) (j1 : Nat) (μ : Mm) (v2 v3 : Int32) : Option ((Mm × Int32) ⊕ (Int32 × Mm)) :=
  (f_X4_sayWhoIsSure sh j1 5 μ).bind fun x65 => (f_X4_heed sh j1 5 x65).bind fun x74 => if x74.1 = 0 then Option.map Sum.inr (α := Int32 × Mm) (some ((-1 : Int32), x74.2)) else (some (.inl (x74.2, (v3 + (1 : Int32)))))
noncomputable def f_X4_daysUntilSure_L17 (sh : Sh) (j1 : Nat) (v2 : Int32) (μ : Mm) (v3 : Int32) : Option ((Mm × Int32) ⊕ (Int32 × Mm)) :=
  if (40 : Int32) < v3 then Option.map Sum.inr (α := Int32 × Mm) (some ((-1 : Int32), μ)) else ((f_X4_sureBits sh j1 5 μ).bind fun x29 => if v2 = (-1 : Int32) then if x29 = 0 then f_X4_daysUntilSure_J59 sh j1 μ v2 v3 else (Option.map Sum.inr (α := Int32 × Mm) (some (v3, μ))) else (if ((x29 >>> (v2 &&& 31)) &&& (1 : Int32)) = (1 : Int32) then Option.map Sum.inr (α := Int32 × Mm) (some (v3, μ)) else (f_X4_daysUntilSure_J59 sh j1 μ v2 v3)))
noncomputable def f_X4_daysUntilSure (sh : Sh) (j1 : Nat) (μ : Mm) (v2 : Int32) : Option (Int32 × Mm) :=
  (f_X1_become sh 5 (15 + 5 * j1 + 2) μ (μ (13, j1) 2)).bind fun x12 => Wh (fun z : Mm × Int32 => f_X4_daysUntilSure_L17 sh j1 v2 z.1 z.2) (x12, (0 : Int32))
noncomputable def f_X4_spilledBy_L11 (sh : Sh) (j1 : Nat) (μ : Mm) (v3 v4 : Int32) : Option ((Int32 × Int32) ⊕ (Int32 × Mm)) :=
  if (μ (13, j1) 1) ≤ v4 then Option.map Sum.inr (α := Int32 × Mm) (some (v3, μ)) else ((f_X4_isSure sh j1 (15 + 5 * j1 + 2) μ v4 (μ (13, j1) 3)).bind fun x32 => if x32 = 0 then (f_X4_sureIfHeard sh j1 (15 + 5 * j1 + 2) μ v4).bind fun x46 => if x46 = 0 then some (.inl (v3, (v4 + (1 : Int32)))) else (some (.inl ((v3 ||| ((1 : Int32) <<< (v4 &&& 31))), (v4 + (1 : Int32))))) else (some (.inl (v3, (v4 + (1 : Int32))))))
noncomputable def f_X4_spilledBy (sh : Sh) (j1 : Nat) (μ : Mm) (v2 : Int32) : Option (Int32 × Mm) :=
  (f_X4_sayNotice sh j1 μ v2).bind fun x3 => Wh (fun z : Int32 × Int32 => f_X4_spilledBy_L11 sh j1 x3 z.1 z.2) ((0 : Int32), (0 : Int32))
noncomputable def f_X4_firstLike_L2 (sh : Sh) (v1 : Int32) (μ : Mm) (v2 : Int32) : Option ((Int32) ⊕ (Int32)) :=
  if v1 ≤ v2 then Option.map Sum.inr (α := Int32) (some v1) else ((f_X1_at sh 6 μ v2).bind fun x12 => (f_X1_at sh 6 μ v1).bind fun x20 => if x12 = x20 then Option.map Sum.inr (α := Int32) (some v2) else (some (.inl ((v2 + (1 : Int32))))))
noncomputable def f_X4_firstLike (sh : Sh) (μ : Mm) (v1 : Int32) : Option (Int32) :=
  Wh (fun z : Int32 => f_X4_firstLike_L2 sh v1 μ z) ((0 : Int32))
noncomputable def f_X4_meet_J186 (sh : Sh) (j1 : Nat) (μ : Mm) (v2 v3 v4 s0 : Int32) : Option ((Mm × Int32) ⊕ (Mm)) :=
  (f_X6_figure sh j1 μ v4 v3).bind fun x202 => (f_X1_at sh 7 μ ((x202 <<< ((1 : Int32) &&& 31)) ||| s0)).bind fun x210 => (f_X1_put sh 3 μ v4 x210).bind fun x213 => some (.inl (x213, (v4 + (1 : Int32))))
noncomputable def f_X4_meet_L156 (sh : Sh) (j1 : Nat) (v2 v3 : Int32) (μ : Mm) (v4 : Int32) : Option ((Mm × Int32) ⊕ (Mm)) :=
  if (μ (13, j1) 2) ≤ v4 then Option.map Sum.inr (α := Mm) (some μ) else ((f_X4_spotted sh j1 μ v2 v4).bind fun x171 => (f_X4_onlyOne x171).bind fun x174 => if x174 = (-1 : Int32) then f_X4_meet_J186 sh j1 μ v2 v3 v4 (0 : Int32) else (f_X4_meet_J186 sh j1 μ v2 v3 v4 (1 : Int32)))
noncomputable def f_X4_meet_L55 (sh : Sh) (j1 : Nat) (v2 v3 : Int32) (μ : Mm) (v4 : Int32) : Option ((Mm × Int32) ⊕ (Mm)) :=
  if (8 : Int32) ≤ v4 then Option.map Sum.inr (α := Mm) ((f_X4_spot sh j1 (15 + 5 * j1 + 2) μ v2 v2).bind fun x150 => Wh (fun z : Mm × Int32 => f_X4_meet_L156 sh j1 v2 v3 z.1 z.2) (x150, (0 : Int32))) else ((f_X1_put sh 8 μ (0 : Int32) (v4 >>> ((1 : Int32) &&& 31))).bind fun x71 => (f_X1_put sh 8 x71 (4 : Int32) (v4 &&& (1 : Int32))).bind fun x83 => if sh 3 j1 = 0 then (f_X1_put sh 6 x83 v4 (0 : Int32)).bind fun x118 => (f_X4_firstLike sh x118 v4).bind fun x130 => (f_X1_put sh 7 x118 v4 x130).bind fun x133 => some (.inl (x133, (v4 + (1 : Int32)))) else (if sh 3 j1 = 0 then none else ((f_X2_total sh (sh 3 j1 - 1) 8 9 x83).bind fun x115 => (f_X1_put sh 6 x115.2 v4 x115.1).bind fun x118 => (f_X4_firstLike sh x118 v4).bind fun x130 => (f_X1_put sh 7 x118 v4 x130).bind fun x133 => some (.inl (x133, (v4 + (1 : Int32)))))))
noncomputable def f_X4_meet_J49 (sh : Sh) (j1 : Nat) (μ : Mm) (v2 v3 s0 s1 : Int32) : Option (Mm) :=
  (f_X1_put sh 8 μ s1 s0).bind fun x49 => Wh (fun z : Mm × Int32 => f_X4_meet_L55 sh j1 v2 v3 z.1 z.2) (x49, (0 : Int32))
noncomputable def f_X4_meet (sh : Sh) (j1 : Nat) (μ : Mm) (v2 v3 : Int32) : Option (Mm) :=
  (f_X1_put sh 8 μ (1 : Int32) v2).bind fun x6 => (f_X1_put sh 8 x6 (2 : Int32) v3).bind fun x15 => (f_X1_put sh 8 x15 (3 : Int32) (x15 (13, j1) 4)).bind fun x27 => (f_X6_hasSight sh j1 x27 v3 v2).bind fun x38 => if x38 = 0 then f_X4_meet_J49 sh j1 x27 v2 v3 (0 : Int32) (5 : Int32) else (f_X4_meet_J49 sh j1 x27 v2 v3 (1 : Int32) (5 : Int32))
noncomputable def f_X4_mannerIn (sh : Sh) (μ : Mm) (v1 : Int32) : Option (Int32) :=
  (f_X1_at sh 3 μ v1).bind fun x9 => (f_X1_at sh 6 μ x9).bind fun x12 => some x12
noncomputable def f_X4_split_J86 (sh : Sh) (j1 : Nat) (μ : Mm) (v2 v3 v4 v5 : Int32) : Option ((Mm × Int32 × Int32) ⊕ (Mm)) :=
  (f_X1_at sh 1 μ v5).bind fun x105 => (f_X1_put sh (15 + 5 * j1 + 3) μ ((v2 * (μ (13, j1) 2)) + v4) x105).bind fun x108 => some (.inl (x108, v3, (v4 + (1 : Int32))))
noncomputable def f_X4_split_L20 (sh : Sh) (j1 : Nat) (v2 : Int32) (μ : Mm) (v3 v4 : Int32) : Option ((Mm × Int32 × Int32) ⊕ (Mm)) :=
  if (μ (13, j1) 2) ≤ v4 then Option.map Sum.inr (α := Mm) (some μ) else ((f_X6_stands sh j1 μ v4).bind fun x32 => if x32 = 0 then some (.inl (μ, v3, (v4 + (1 : Int32)))) else ((f_X6_group sh j1 μ v2 v4).bind fun x42 => (f_X1_at sh 3 μ v4).bind fun x54 => (f_X1_at sh 1 μ ((x42 * (8 : Int32)) + x54)).bind fun x66 => if x66 = (-1 : Int32) then (f_X1_put sh 1 μ ((x42 * (8 : Int32)) + x54) v3).bind fun x80 => f_X4_split_J86 sh j1 x80 v2 (v3 + (1 : Int32)) v4 ((x42 * (8 : Int32)) + x54) else (f_X4_split_J86 sh j1 μ v2 v3 v4 ((x42 * (8 : Int32)) + x54))))
noncomputable def f_X4_split (sh : Sh) (j1 : Nat) (μ : Mm) (v2 : Int32) : Option (Mm) :=
  (f_X1_fill sh 1 μ (-1 : Int32) ((μ (13, j1) 2) * (8 : Int32))).bind fun x12 => Wh (fun z : Mm × Int32 × Int32 => f_X4_split_L20 sh j1 v2 z.1 z.2.1 z.2.2) (x12, (0 : Int32), (0 : Int32))
noncomputable def f_X4_look_L14 (sh : Sh) (j1 : Nat) (v2 v3 : Int32) (μ : Mm) (v4 : Int32) : Option ((Mm × Int32) ⊕ (Mm)) :=
  if (μ (13, j1) 2) ≤ v4 then Option.map Sum.inr (α := Mm) ((f_X4_split sh j1 μ v2).bind fun x48 => some x48) else ((f_X6_figure sh j1 μ v4 v3).bind fun x33 => (f_X1_put sh 3 μ v4 x33).bind fun x36 => some (.inl (x36, (v4 + (1 : Int32)))))
noncomputable def f_X4_look (sh : Sh) (j1 : Nat) (μ : Mm) (v2 v3 : Int32) : Option (Mm) :=
  (f_X1_addBits sh (15 + 5 * j1 + 1) μ v2 ((1 : Int32) <<< (v3 &&& 31))).bind fun x8 => Wh (fun z : Mm × Int32 => f_X4_look_L14 sh j1 v2 v3 z.1 z.2) (x8, (0 : Int32))
noncomputable def f_X4_weigh_L25 (sh : Sh) (j1 : Nat) (v3 : Int32) (μ : Mm) (v4 : Int32) : Option ((Mm × Int32) ⊕ (Mm)) :=
  if (μ (13, j1) 2) ≤ v4 then Option.map Sum.inr (α := Mm) (some μ) else ((f_X6_stands sh j1 μ v4).bind fun x37 => if x37 = 0 then some (.inl (μ, (v4 + (1 : Int32)))) else ((f_X6_group sh j1 μ v3 v4).bind fun x51 => (f_X1_at sh 3 μ v4).bind fun x63 => (f_X6_figure sh j1 μ v4 v3).bind fun x72 => (f_X1_addBits sh 1 μ ((x51 * (8 : Int32)) + x63) ((1 : Int32) <<< (x72 &&& 31))).bind fun x76 => some (.inl (x76, (v4 + (1 : Int32))))))
noncomputable def f_X4_weigh (sh : Sh) (j1 : Nat) (μ : Mm) (v2 v3 : Int32) : Option (Mm) :=
  (f_X4_meet sh j1 μ v2 v3).bind fun x4 => (f_X1_fill sh 1 x4 (0 : Int32) ((x4 (13, j1) 2) * (8 : Int32))).bind fun x19 => Wh (fun z : Mm × Int32 => f_X4_weigh_L25 sh j1 v3 z.1 z.2) (x19, (0 : Int32))
noncomputable def f_X4_weighed (sh : Sh) (j1 : Nat) (μ : Mm) (v2 v3 : Int32) : Option (Int32) :=
  (f_X6_group sh j1 μ v2 v3).bind fun x7 => (f_X1_at sh 3 μ v3).bind fun x18 => (f_X1_at sh 1 μ ((x7 * (8 : Int32)) + x18)).bind fun x22 => some x22
noncomputable def f_X4_whoGivesAway_L5 (sh : Sh) (j1 : Nat) (v2 : Int32) (μ : Mm) (v3 v4 : Int32) : Option ((Mm × Int32 × Int32) ⊕ (Int32 × Mm)) :=
  if (μ (13, j1) 1) ≤ v4 then Option.map Sum.inr (α := Int32 × Mm) (some (v3, μ)) else (if v4 = v2 then some (.inl (μ, v3, (v4 + (1 : Int32)))) else ((f_X6_hasSight sh j1 μ v4 v2).bind fun x24 => if x24 = 0 then some (.inl (μ, v3, (v4 + (1 : Int32)))) else ((f_X4_weigh sh j1 μ v4 v2).bind fun x35 => (f_X4_weighed sh j1 x35 v2 (x35 (13, j1) 3)).bind fun x46 => (f_X4_onlyOne x46).bind fun x49 => if x49 = (-1 : Int32) then some (.inl (x35, v3, (v4 + (1 : Int32)))) else (some (.inl (x35, (v3 ||| ((1 : Int32) <<< (v4 &&& 31))), (v4 + (1 : Int32))))))))
noncomputable def f_X4_whoGivesAway (sh : Sh) (j1 : Nat) (μ : Mm) (v2 : Int32) : Option (Int32 × Mm) :=
  Wh (fun z : Mm × Int32 × Int32 => f_X4_whoGivesAway_L5 sh j1 v2 z.1 z.2.1 z.2.2) (μ, (0 : Int32), (0 : Int32))
noncomputable def f_X4_makesSureSomewhere_L13 (sh : Sh) (j1 : Nat) (v2 : Int32) (μ : Mm) (v3 : Int32) : Option ((Int32) ⊕ (Int32 × Mm)) :=
  if (μ (13, j1) 2) ≤ v3 then Option.map Sum.inr (α := Int32 × Mm) (some ((0 : Int32), μ)) else ((f_X6_stands sh j1 μ v3).bind fun x23 => if x23 = 0 then some (.inl ((v3 + (1 : Int32)))) else ((f_X4_spotted sh j1 μ v2 v3).bind fun x34 => (f_X4_onlyOne x34).bind fun x37 => if x37 = (-1 : Int32) then (f_X4_weighed sh j1 μ v2 v3).bind fun x49 => (f_X4_onlyOne x49).bind fun x52 => if x52 = (-1 : Int32) then some (.inl ((v3 + (1 : Int32)))) else (Option.map Sum.inr (α := Int32 × Mm) (some ((1 : Int32), μ))) else (some (.inl ((v3 + (1 : Int32)))))))
noncomputable def f_X4_makesSureSomewhere (sh : Sh) (j1 : Nat) (μ : Mm) (v2 : Int32) : Option (Int32 × Mm) :=
  (f_X4_spot sh j1 (15 + 5 * j1 + 2) μ v2 v2).bind fun x8 => Wh (fun z : Int32 => f_X4_makesSureSomewhere_L13 sh j1 v2 x8 z) ((0 : Int32))
noncomputable def f_X4_whoNeverGivesAway_L5 (sh : Sh) (j1 : Nat) (v2 : Int32) (μ : Mm) (v3 v4 : Int32) : Option ((Mm × Int32 × Int32) ⊕ (Int32 × Mm)) :=
  if (μ (13, j1) 1) ≤ v4 then Option.map Sum.inr (α := Int32 × Mm) (some (v3, μ)) else (if v4 = v2 then some (.inl (μ, v3, (v4 + (1 : Int32)))) else ((f_X6_hasSight sh j1 μ v4 v2).bind fun x24 => if x24 = 0 then some (.inl (μ, v3, (v4 + (1 : Int32)))) else ((f_X4_weigh sh j1 μ v4 v2).bind fun x35 => (f_X4_makesSureSomewhere sh j1 x35 v2).bind fun x41 => if x41.1 = 0 then some (.inl (x41.2, (v3 ||| ((1 : Int32) <<< (v4 &&& 31))), (v4 + (1 : Int32)))) else (some (.inl (x41.2, v3, (v4 + (1 : Int32))))))))
noncomputable def f_X4_whoNeverGivesAway (sh : Sh) (j1 : Nat) (μ : Mm) (v2 : Int32) : Option (Int32 × Mm) :=
  Wh (fun z : Mm × Int32 × Int32 => f_X4_whoNeverGivesAway_L5 sh j1 v2 z.1 z.2.1 z.2.2) (μ, (0 : Int32), (0 : Int32))
noncomputable def f_X4_tally_L17 (sh : Sh) (j1 : Nat) (v2 : Int32) (μ : Mm) (v3 : Int32) : Option ((Mm × Int32) ⊕ (Mm)) :=
  if (μ (13, j1) 2) ≤ v3 then Option.map Sum.inr (α := Mm) (some μ) else ((f_X6_stands sh j1 μ v3).bind fun x27 => if x27 = 0 then some (.inl (μ, (v3 + (1 : Int32)))) else ((f_X6_group sh j1 μ v2 v3).bind fun x36 => (f_X6_figure sh j1 μ v3 v2).bind fun x45 => (f_X1_at sh 1 μ ((x36 * (8 : Int32)) + x45)).bind fun x63 => (f_X1_put sh 1 μ ((x36 * (8 : Int32)) + x45) (x63 + (1 : Int32))).bind fun x68 => some (.inl (x68, (v3 + (1 : Int32))))))
noncomputable def f_X4_tally (sh : Sh) (j1 : Nat) (μ : Mm) (v2 : Int32) : Option (Mm) :=
  (f_X1_fill sh 1 μ (0 : Int32) ((μ (13, j1) 2) * (8 : Int32))).bind fun x12 => Wh (fun z : Mm × Int32 => f_X4_tally_L17 sh j1 v2 z.1 z.2) (x12, (0 : Int32))
noncomputable def f_X4_bestIn_L17 (sh : Sh) (j1 : Nat) (v4 : Int32) (μ : Mm) (v5 v6 : Int32) : Option ((Int32 × Int32) ⊕ (Int32)) :=
  if (μ (13, j1) 0) ≤ v6 then Option.map Sum.inr (α := Int32) (some v5) else ((f_X1_at sh 1 μ (v4 + v6)).bind fun x35 => (f_X1_at sh 1 μ (v4 + v5)).bind fun x47 => if x35 ≤ x47 then some (.inl (v5, (v6 + (1 : Int32)))) else (some (.inl (v6, (v6 + (1 : Int32))))))
noncomputable def f_X4_bestIn (sh : Sh) (j1 : Nat) (μ : Mm) (v2 v3 : Int32) : Option (Int32) :=
  (f_X6_group sh j1 μ v2 v3).bind fun x3 => Wh (fun z : Int32 × Int32 => f_X4_bestIn_L17 sh j1 (x3 * (8 : Int32)) μ z.1 z.2) ((0 : Int32), (1 : Int32))
noncomputable def f_X4_guessIn (sh : Sh) (j1 : Nat) (μ : Mm) (v2 v3 : Int32) : Option (Int32 × Mm) :=
  (f_X4_tally sh j1 μ v2).bind fun x3 => (f_X4_bestIn sh j1 x3 v2 v3).bind fun x10 => some (x10, x3)
noncomputable def f_X4_strikeWrong_L2 (sh : Sh) (j1 : Nat) (v2 : Int32) (μ : Mm) (v3 : Int32) : Option ((Mm × Int32) ⊕ (Mm)) :=
  if (μ (13, j1) 2) ≤ v3 then Option.map Sum.inr (α := Mm) (some μ) else ((f_X1_at sh 4 μ v3).bind fun x15 => if x15 = (1 : Int32) then (f_X4_bestIn sh j1 μ v2 v3).bind fun x26 => (f_X6_figure sh j1 μ v3 v2).bind fun x32 => if x26 = x32 then some (.inl (μ, (v3 + (1 : Int32)))) else ((f_X1_put sh 4 μ v3 (0 : Int32)).bind fun x44 => some (.inl (x44, (v3 + (1 : Int32))))) else (some (.inl (μ, (v3 + (1 : Int32))))))
noncomputable def f_X4_strikeWrong (sh : Sh) (j1 : Nat) (μ : Mm) (v2 : Int32) : Option (Mm) :=
  Wh (fun z : Mm × Int32 => f_X4_strikeWrong_L2 sh j1 v2 z.1 z.2) (μ, (0 : Int32))
noncomputable def f_X4_rightGuesses_L58 (sh : Sh) (j1 : Nat) (μ : Mm) (v3 v4 : Int32) : Option ((Int32 × Int32) ⊕ (Int32 × Mm)) :=
  if (μ (13, j1) 2) ≤ v4 then Option.map Sum.inr (α := Int32 × Mm) (some (v3, μ)) else ((f_X1_at sh 4 μ v4).bind fun x74 => some (.inl ((v3 + x74), (v4 + (1 : Int32)))))
noncomputable def f_X4_rightGuesses_L17 (sh : Sh) (j1 : Nat) (v2 : Int32) (μ : Mm) (v3 : Int32) : Option ((Mm × Int32) ⊕ (Int32 × Mm)) :=
  if (μ (13, j1) 1) ≤ v3 then Option.map Sum.inr (α := Int32 × Mm) (Wh (fun z : Int32 × Int32 => f_X4_rightGuesses_L58 sh j1 μ z.1 z.2) ((0 : Int32), (0 : Int32))) else (if v2 = (-1 : Int32) then (f_X4_tally sh j1 μ v3).bind fun x38 => (f_X4_strikeWrong sh j1 x38 v3).bind fun x44 => some (.inl (x44, (v3 + (1 : Int32)))) else (if v2 = v3 then (f_X4_tally sh j1 μ v3).bind fun x38 => (f_X4_strikeWrong sh j1 x38 v3).bind fun x44 => some (.inl (x44, (v3 + (1 : Int32)))) else (some (.inl (μ, (v3 + (1 : Int32)))))))
noncomputable def f_X4_rightGuesses (sh : Sh) (j1 : Nat) (μ : Mm) (v2 : Int32) : Option (Int32 × Mm) :=
  (f_X1_become sh 4 (15 + 5 * j1 + 2) μ (μ (13, j1) 2)).bind fun x12 => Wh (fun z : Mm × Int32 => f_X4_rightGuesses_L17 sh j1 v2 z.1 z.2) (x12, (0 : Int32))
noncomputable def f_X5_unlikeBits_L5 (sh : Sh) (j1 : Nat) (v2 : Int32) (μ : Mm) (v3 v4 : Int32) : Option ((Int32 × Int32) ⊕ (Int32)) :=
  if (μ (13, j1) 1) ≤ v4 then Option.map Sum.inr (α := Int32) (some v3) else ((f_X6_figure sh j1 μ v2 v4).bind fun x18 => (f_X6_figure sh j1 μ (μ (13, j1) 3) v4).bind fun x28 => if x18 = x28 then some (.inl (v3, (v4 + (1 : Int32)))) else (some (.inl ((v3 ||| ((1 : Int32) <<< (v4 &&& 31))), (v4 + (1 : Int32))))))
noncomputable def f_X5_unlikeBits (sh : Sh) (j1 : Nat) (μ : Mm) (v2 : Int32) : Option (Int32) :=
  Wh (fun z : Int32 × Int32 => f_X5_unlikeBits_L5 sh j1 v2 μ z.1 z.2) ((0 : Int32), (0 : Int32))
noncomputable def f_X5_gatherDoubts_L18 (sh : Sh) (j1 : Nat) (v2 v3 : Int32) (μ : Mm) (v4 : Int32) : Option ((Mm × Int32) ⊕ (Mm)) :=
  if (μ (13, j1) 2) ≤ v4 then Option.map Sum.inr (α := Mm) (some μ) else ((f_X6_stands sh j1 μ v4).bind fun x30 => if x30 = 0 then some (.inl (μ, (v4 + (1 : Int32)))) else ((f_X6_group sh j1 μ v2 v4).bind fun x40 => if x40 = v3 then (f_X6_figure sh j1 μ v4 v2).bind fun x51 => (f_X6_figure sh j1 μ (μ (13, j1) 3) v2).bind fun x60 => if x51 = x60 then some (.inl (μ, (v4 + (1 : Int32)))) else ((f_X5_unlikeBits sh j1 μ v4).bind fun x78 => (f_X1_put sh 10 μ (μ (5, 0) 2) x78).bind fun x81 => some (.inl ((mst x81 (5, 0) 2 ((x81 (5, 0) 2) + (1 : Int32))), (v4 + (1 : Int32))))) else (some (.inl (μ, (v4 + (1 : Int32)))))))
noncomputable def f_X5_gatherDoubts (sh : Sh) (j1 : Nat) (μ : Mm) (v2 : Int32) : Option (Mm) :=
  (f_X6_group sh j1 (mst μ (5, 0) 2 (0 : Int32)) v2 ((mst μ (5, 0) 2 (0 : Int32)) (13, j1) 3)).bind fun x11 => Wh (fun z : Mm × Int32 => f_X5_gatherDoubts_L18 sh j1 v2 x11 z.1 z.2) ((mst μ (5, 0) 2 (0 : Int32)), (0 : Int32))
noncomputable def f_X5_settles_L2 (sh : Sh) (v1 : Int32) (μ : Mm) (v2 : Int32) : Option ((Int32) ⊕ (Int32)) :=
  if (μ (5, 0) 2) ≤ v2 then Option.map Sum.inr (α := Int32) (some (1 : Int32)) else ((f_X1_at sh 10 μ v2).bind fun x15 => if (x15 &&& v1) = 0 then Option.map Sum.inr (α := Int32) (some (0 : Int32)) else (some (.inl ((v2 + (1 : Int32))))))
noncomputable def f_X5_settles (sh : Sh) (μ : Mm) (v1 : Int32) : Option (Int32) :=
  Wh (fun z : Int32 => f_X5_settles_L2 sh v1 μ z) ((0 : Int32))
noncomputable def f_X5_fewestBacks_J46 (sh : Sh) (j1 : Nat) (μ : Mm) (v2 v3 v4 s0 : Int32) : Option ((Int32 × Int32) ⊕ (Int32 × Mm)) :=
  if s0 = 0 then some (.inl (v3, (v4 + (1 : Int32)))) else (if ((v4 >>> (v2 &&& 31)) &&& (1 : Int32)) = 0 then (f_X5_settles sh μ v4).bind fun x65 => if x65 = 0 then some (.inl (v3, (v4 + (1 : Int32)))) else (some (.inl (v4, (v4 + (1 : Int32))))) else (some (.inl (v3, (v4 + (1 : Int32))))))
noncomputable def f_X5_fewestBacks_L12 (sh : Sh) (j1 : Nat) (v2 : Int32) (μ : Mm) (v3 v4 : Int32) : Option ((Int32 × Int32) ⊕ (Int32 × Mm)) :=
  if ((1 : Int32) <<< ((μ (13, j1) 1) &&& 31)) ≤ v4 then Option.map Sum.inr (α := Int32 × Mm) (some (v3, μ)) else (if v3 = (-2 : Int32) then f_X5_fewestBacks_J46 sh j1 μ v2 v3 v4 (1 : Int32) else ((f_J6_bitCount_0f7a4 v4).bind fun x31 => (f_J6_bitCount_0f7a4 v3).bind fun x35 => if x35 ≤ x31 then f_X5_fewestBacks_J46 sh j1 μ v2 v3 v4 (0 : Int32) else (f_X5_fewestBacks_J46 sh j1 μ v2 v3 v4 (1 : Int32))))
noncomputable def f_X5_fewestBacks (sh : Sh) (j1 : Nat) (μ : Mm) (v2 : Int32) : Option (Int32 × Mm) :=
  (f_X5_gatherDoubts sh j1 μ v2).bind fun x3 => Wh (fun z : Int32 × Int32 => f_X5_fewestBacks_L12 sh j1 v2 x3 z.1 z.2) ((-2 : Int32), (0 : Int32))
noncomputable def f_X5_bestMove_J68 (sh : Sh) (j1 : Nat) (μ : Mm) (v2 v3 v4 v5 v6 s0 : Int32) : Option ((Int32 × Int32 × Int32) ⊕ (Int32 × Mm)) :=
  if v4 = (-1 : Int32) then some (.inl (v6, s0, (v6 + (1 : Int32)))) else (if s0 ≤ v5 then some (.inl (v4, v5, (v6 + (1 : Int32)))) else (some (.inl (v6, s0, (v6 + (1 : Int32))))))
noncomputable def f_X5_bestMove_L9 (sh : Sh) (j1 : Nat) (v2 v3 : Int32) (μ : Mm) (v4 v5 v6 : Int32) : Option ((Int32 × Int32 × Int32) ⊕ (Int32 × Mm)) :=
  if (μ (13, j1) 1) ≤ v6 then Option.map Sum.inr (α := Int32 × Mm) ((f_X1_put sh 12 μ v3 v5).bind fun x104 => some (v4, x104)) else (if v6 = v2 then some (.inl (v4, v5, (v6 + (1 : Int32)))) else (if ((v3 >>> (v6 &&& 31)) &&& (1 : Int32)) = 0 then (f_X1_at sh 11 μ (v3 ||| ((1 : Int32) <<< (v6 &&& 31)))).bind fun x47 => if x47 = (1 : Int32) then f_X5_bestMove_J68 sh j1 μ v2 v3 v4 v5 v6 (-1 : Int32) else ((f_X1_at sh 12 μ (v3 ||| ((1 : Int32) <<< (v6 &&& 31)))).bind fun x64 => f_X5_bestMove_J68 sh j1 μ v2 v3 v4 v5 v6 (-x64)) else (some (.inl (v4, v5, (v6 + (1 : Int32)))))))
noncomputable def f_X5_bestMove (sh : Sh) (j1 : Nat) (μ : Mm) (v2 v3 : Int32) : Option (Int32 × Mm) :=
  Wh (fun z : Int32 × Int32 × Int32 => f_X5_bestMove_L9 sh j1 v2 v3 μ z.1 z.2.1 z.2.2) ((-1 : Int32), (0 : Int32), (0 : Int32))
noncomputable def f_X5_playGame_L73 (sh : Sh) (j1 : Nat) (v2 v3 : Int32) (μ : Mm) (v5 v6 : Int32) : Option ((Mm × Int32 × Int32) ⊕ (Int32 × Mm)) :=
  if v6 < 0 then Option.map Sum.inr (α := Int32 × Mm) (if v3 = 0 then (f_X1_at sh 12 μ (0 : Int32)).bind fun x121 => some (x121, μ) else (some (v5, μ))) else (if ((v6 >>> (v2 &&& 31)) &&& (1 : Int32)) = 0 then (f_X5_bestMove sh j1 μ v2 v6).bind fun x92 => some (.inl (x92.2, x92.1, (v6 + (-1 : Int32)))) else (some (.inl (μ, (-1 : Int32), (v6 + (-1 : Int32))))))
noncomputable def f_X5_playGame_L28 (sh : Sh) (j1 : Nat) (v2 v3 v4 : Int32) (μ : Mm) (v5 : Int32) : Option ((Mm × Int32) ⊕ (Int32 × Mm)) :=
  if v4 ≤ v5 then Option.map Sum.inr (α := Int32 × Mm) (Wh (fun z : Mm × Int32 × Int32 => f_X5_playGame_L73 sh j1 v2 v3 z.1 z.2.1 z.2.2) (μ, (-1 : Int32), (v4 - (1 : Int32)))) else ((f_X5_settles sh μ v5).bind fun x44 => if x44 = 0 then (f_X1_put sh 11 μ v5 (0 : Int32)).bind fun x55 => some (.inl (x55, (v5 + (1 : Int32)))) else ((f_X1_put sh 11 μ v5 (1 : Int32)).bind fun x55 => some (.inl (x55, (v5 + (1 : Int32))))))
noncomputable def f_X5_playGame (sh : Sh) (j1 : Nat) (μ : Mm) (v2 v3 : Int32) : Option (Int32 × Mm) :=
  (f_X5_gatherDoubts sh j1 μ v2).bind fun x3 => (f_X5_settles sh x3 (0 : Int32)).bind fun x8 => if x8 = 0 then Wh (fun z : Mm × Int32 => f_X5_playGame_L28 sh j1 v2 v3 ((1 : Int32) <<< ((x3 (13, j1) 1) &&& 31)) z.1 z.2) (x3, (0 : Int32)) else (some ((-2 : Int32), x3))
noncomputable def f_X5_questionIn_L27 (sh : Sh) (j1 cl2 : Nat) (v3 v4 v5 : Int32) (μ : Mm) (v6 : Int32) : Option ((Mm × Int32) ⊕ ((Mm × Int32) ⊕ ((Mm × Int32) ⊕ (Int32 × Mm)))) :=
  if (μ (13, j1) 0) ≤ v6 then Option.map Sum.inr (α := (Mm × Int32) ⊕ ((Mm × Int32) ⊕ (Int32 × Mm))) (some (.inl (μ, (v5 + (1 : Int32))))) else (if v4 = v3 then Option.map Sum.inr (α := (Mm × Int32) ⊕ ((Mm × Int32) ⊕ (Int32 × Mm))) (some (.inl (μ, (v5 + (1 : Int32))))) else (if v5 = v3 then Option.map Sum.inr (α := (Mm × Int32) ⊕ ((Mm × Int32) ⊕ (Int32 × Mm))) (some (.inl (μ, (v5 + (1 : Int32))))) else ((f_X4_sayAnswer sh j1 cl2 μ v4 v5 v6).bind fun x60 => (f_X4_sureIfHeard sh j1 cl2 x60 v3).bind fun x70 => if x70 = 0 then some (.inl (x60, (v6 + (1 : Int32)))) else (Option.map Sum.inr (α := (Mm × Int32) ⊕ ((Mm × Int32) ⊕ (Int32 × Mm))) (Option.map Sum.inr (α := (Mm × Int32) ⊕ (Int32 × Mm)) (Option.map Sum.inr (α := Int32 × Mm) (some (((((100 : Int32) * v4) + ((10 : Int32) * v5)) + v6), x60))))))))
noncomputable def f_X5_questionIn_L15 (sh : Sh) (j1 cl2 : Nat) (v3 v4 : Int32) (μ : Mm) (v5 : Int32) : Option ((Mm × Int32) ⊕ ((Mm × Int32) ⊕ (Int32 × Mm))) :=
  if (μ (13, j1) 1) ≤ v5 then Option.map Sum.inr (α := (Mm × Int32) ⊕ (Int32 × Mm)) (some (.inl (μ, (v4 + (1 : Int32))))) else (Wh (fun z : Mm × Int32 => f_X5_questionIn_L27 sh j1 cl2 v3 v4 v5 z.1 z.2) (μ, (0 : Int32)))
noncomputable def f_X5_questionIn_L3 (sh : Sh) (j1 cl2 : Nat) (v3 : Int32) (μ : Mm) (v4 : Int32) : Option ((Mm × Int32) ⊕ (Int32 × Mm)) :=
  if (μ (13, j1) 1) ≤ v4 then Option.map Sum.inr (α := Int32 × Mm) (some ((-1 : Int32), μ)) else (Wh (fun z : Mm × Int32 => f_X5_questionIn_L15 sh j1 cl2 v3 v4 z.1 z.2) (μ, (0 : Int32)))
noncomputable def f_X5_questionIn (sh : Sh) (j1 cl2 : Nat) (μ : Mm) (v3 : Int32) : Option (Int32 × Mm) :=
  Wh (fun z : Mm × Int32 => f_X5_questionIn_L3 sh j1 cl2 v3 z.1 z.2) (μ, (0 : Int32))
noncomputable def f_X5_firstQuestion (sh : Sh) (j1 : Nat) (μ : Mm) (v2 : Int32) : Option (Int32 × Mm) :=
  (f_X4_isSure sh j1 (15 + 5 * j1 + 2) μ v2 (μ (13, j1) 3)).bind fun x14 => if x14 = 0 then (f_X5_questionIn sh j1 (15 + 5 * j1 + 2) μ v2).bind fun x29 => some (x29.1, x29.2) else (some ((-1 : Int32), μ))
noncomputable def f_X5_sureByTwo_L25 (sh : Sh) (j1 : Nat) (v2 v3 v4 : Int32) (μ : Mm) (v5 : Int32) : Option ((Mm × Int32) ⊕ ((Mm × Int32) ⊕ ((Mm × Int32) ⊕ (Int32 × Mm)))) :=
  if (μ (13, j1) 0) ≤ v5 then Option.map Sum.inr (α := (Mm × Int32) ⊕ ((Mm × Int32) ⊕ (Int32 × Mm))) (some (.inl (μ, (v4 + (1 : Int32))))) else (if v3 = v2 then Option.map Sum.inr (α := (Mm × Int32) ⊕ ((Mm × Int32) ⊕ (Int32 × Mm))) (some (.inl (μ, (v4 + (1 : Int32))))) else (if v4 = v2 then Option.map Sum.inr (α := (Mm × Int32) ⊕ ((Mm × Int32) ⊕ (Int32 × Mm))) (some (.inl (μ, (v4 + (1 : Int32))))) else ((f_X1_become sh 14 (15 + 5 * j1 + 2) μ (μ (13, j1) 2)).bind fun x57 => (f_X4_sayAnswer sh j1 14 x57 v3 v4 v5).bind fun x74 => (f_X4_heed sh j1 14 x74).bind fun x86 => if x86.1 = 0 then some (.inl (x86.2, (v5 + (1 : Int32)))) else ((f_X5_questionIn sh j1 14 x86.2 v2).bind fun x99 => if x99.1 = (-1 : Int32) then some (.inl (x99.2, (v5 + (1 : Int32)))) else (Option.map Sum.inr (α := (Mm × Int32) ⊕ ((Mm × Int32) ⊕ (Int32 × Mm))) (Option.map Sum.inr (α := (Mm × Int32) ⊕ (Int32 × Mm)) (Option.map Sum.inr (α := Int32 × Mm) (some ((1 : Int32), x99.2)))))))))
noncomputable def f_X5_sureByTwo_L13 (sh : Sh) (j1 : Nat) (v2 v3 : Int32) (μ : Mm) (v4 : Int32) : Option ((Mm × Int32) ⊕ ((Mm × Int32) ⊕ (Int32 × Mm))) :=
  if (μ (13, j1) 1) ≤ v4 then Option.map Sum.inr (α := (Mm × Int32) ⊕ (Int32 × Mm)) (some (.inl (μ, (v3 + (1 : Int32))))) else (Wh (fun z : Mm × Int32 => f_X5_sureByTwo_L25 sh j1 v2 v3 v4 z.1 z.2) (μ, (0 : Int32)))
noncomputable def f_X5_sureByTwo_L2 (sh : Sh) (j1 : Nat) (v2 : Int32) (μ : Mm) (v3 : Int32) : Option ((Mm × Int32) ⊕ (Int32 × Mm)) :=
  if (μ (13, j1) 1) ≤ v3 then Option.map Sum.inr (α := Int32 × Mm) (some ((0 : Int32), μ)) else (Wh (fun z : Mm × Int32 => f_X5_sureByTwo_L13 sh j1 v2 v3 z.1 z.2) (μ, (0 : Int32)))
noncomputable def f_X5_sureByTwo (sh : Sh) (j1 : Nat) (μ : Mm) (v2 : Int32) : Option (Int32 × Mm) :=
  Wh (fun z : Mm × Int32 => f_X5_sureByTwo_L2 sh j1 v2 z.1 z.2) (μ, (0 : Int32))
noncomputable def f_X5_fewestQueries (sh : Sh) (j1 : Nat) (μ : Mm) (v2 : Int32) : Option (Int32 × Mm) :=
  if (μ (13, j1) 1) ≤ (6 : Int32) then (f_X4_isSure sh j1 (15 + 5 * j1 + 2) μ v2 (μ (13, j1) 3)).bind fun x26 => if x26 = 0 then (f_X5_questionIn sh j1 (15 + 5 * j1 + 2) μ v2).bind fun x41 => if x41.1 = (-1 : Int32) then (f_X5_sureByTwo sh j1 x41.2 v2).bind fun x53 => if x53.1 = 0 then some ((-1 : Int32), x53.2) else (some ((2 : Int32), x53.2)) else (some ((1 : Int32), x41.2)) else (some ((0 : Int32), μ)) else (some ((-3 : Int32), μ))
noncomputable def f_X5_stepsBetween_L37 (sh : Sh) (j1 : Nat) (v3 v4 v5 : Int32) (μ : Mm) (v6 v7 : Int32) : Option ((Int32 × Int32) ⊕ ((Int32 × Int32) ⊕ (Int32))) :=
  if (μ (13, j1) 1) ≤ v7 then Option.map Sum.inr (α := (Int32 × Int32) ⊕ (Int32)) (some (.inl (v6, (v5 + (1 : Int32))))) else (if ((v4 >>> (v7 &&& 31)) &&& (1 : Int32)) = (1 : Int32) then (f_X1_at sh (15 + 5 * j1 + 1) μ v7).bind fun x65 => some (.inl ((v6 ||| x65), (v7 + (1 : Int32)))) else (some (.inl (v6, (v7 + (1 : Int32))))))
noncomputable def f_X5_stepsBetween_L8 (sh : Sh) (j1 : Nat) (v3 : Int32) (μ : Mm) (v4 v5 : Int32) : Option ((Int32 × Int32) ⊕ (Int32)) :=
  if (μ (13, j1) 1) ≤ v5 then Option.map Sum.inr (α := Int32) (some (-1 : Int32)) else (if ((v4 >>> (v3 &&& 31)) &&& (1 : Int32)) = (1 : Int32) then Option.map Sum.inr (α := Int32) (some v5) else (Wh (fun z : Int32 × Int32 => f_X5_stepsBetween_L37 sh j1 v3 v4 v5 μ z.1 z.2) (v4, (0 : Int32))))
noncomputable def f_X5_stepsBetween (sh : Sh) (j1 : Nat) (μ : Mm) (v2 v3 : Int32) : Option (Int32) :=
  Wh (fun z : Int32 × Int32 => f_X5_stepsBetween_L8 sh j1 v3 μ z.1 z.2) (((1 : Int32) <<< (v2 &&& 31)), (0 : Int32))
noncomputable def f_X5_personAt (sh : Sh) (μ : Mm) (v2 : Int32) : Option (Int32) :=
  (f_X7_byteAt sh μ v2).bind fun x2 => some (x2 - (97 : Int32))
noncomputable def f_X5_tellsPairs_L3 (sh : Sh) (j1 : Nat) (v3 : Int32) (μ : Mm) (v4 : Int32) : Option ((Int32) ⊕ (Int32)) :=
  if v3 ≤ (v4 + (2 : Int32)) then Option.map Sum.inr (α := Int32) (if (v3 - v3 / (3 : Int32) * (3 : Int32)) = 0 then some (1 : Int32) else (some (0 : Int32))) else ((f_X5_personAt sh μ v4).bind fun x15 => (f_X5_personAt sh μ (v4 + (1 : Int32))).bind fun x26 => (f_X6_hasPerson sh j1 μ x15).bind fun x34 => if x34 = 0 then Option.map Sum.inr (α := Int32) (some (0 : Int32)) else ((f_X6_hasPerson sh j1 μ x26).bind fun x43 => if x43 = 0 then Option.map Sum.inr (α := Int32) (some (0 : Int32)) else (if x15 = x26 then Option.map Sum.inr (α := Int32) (some (0 : Int32)) else ((f_X7_byteAt sh μ (v4 + (2 : Int32))).bind fun x61 => if x61 ≤ (1 : Int32) then some (.inl ((v4 + (3 : Int32)))) else (Option.map Sum.inr (α := Int32) (some (0 : Int32)))))))
noncomputable def f_X5_tellsPairs (sh : Sh) (j1 : Nat) (μ : Mm) (v3 : Int32) : Option (Int32) :=
  Wh (fun z : Int32 => f_X5_tellsPairs_L3 sh j1 v3 μ z) ((0 : Int32))
noncomputable def f_X5_gatherPairs_L15 (sh : Sh) (j1 : Nat) (v3 : Int32) (μ : Mm) (v4 : Int32) : Option ((Mm × Int32) ⊕ (Mm)) :=
  if v3 ≤ (v4 + (2 : Int32)) then Option.map Sum.inr (α := Mm) (some μ) else ((f_X5_personAt sh μ v4).bind fun x27 => (f_X5_personAt sh μ (v4 + (1 : Int32))).bind fun x38 => (f_X7_byteAt sh μ (v4 + (2 : Int32))).bind fun x48 => if x48 = (1 : Int32) then (f_X1_addBits sh 13 μ x38 ((1 : Int32) <<< (x27 &&& 31))).bind fun x65 => some (.inl (x65, (v4 + (3 : Int32)))) else ((f_X1_addBits sh 13 μ x27 ((1 : Int32) <<< (x38 &&& 31))).bind fun x81 => some (.inl (x81, (v4 + (3 : Int32))))))
noncomputable def f_X5_gatherPairs (sh : Sh) (j1 : Nat) (μ : Mm) (v3 : Int32) : Option (Mm) :=
  (f_X1_fill sh 13 μ (0 : Int32) (μ (13, j1) 1)).bind fun x9 => Wh (fun z : Mm × Int32 => f_X5_gatherPairs_L15 sh j1 v3 z.1 z.2) (x9, (0 : Int32))
noncomputable def f_X5_mayFollow (sh : Sh) (μ : Mm) (v1 v2 : Int32) : Option (Int32) :=
  if ((v1 >>> (v2 &&& 31)) &&& (1 : Int32)) = 0 then (f_X1_at sh 13 μ v2).bind fun x13 => if (x13 &&& (v1 ^^^ (-1 : Int32))) = 0 then some (1 : Int32) else (some (0 : Int32)) else (some (0 : Int32))
noncomputable def f_X5_placeInRow_L25 (sh : Sh) (j1 : Nat) (v2 v3 v4 : Int32) (μ : Mm) (v5 v6 : Int32) : Option ((Int32 × Int32) ⊕ ((Int32 × Int32) ⊕ (Int32))) :=
  if v6 < 0 then Option.map Sum.inr (α := (Int32 × Int32) ⊕ (Int32)) (if v5 = (-1 : Int32) then Option.map Sum.inr (α := Int32) (some v5) else (if v4 = v2 then Option.map Sum.inr (α := Int32) (some v5) else (some (.inl ((v3 ||| ((1 : Int32) <<< (v5 &&& 31))), (v4 + (1 : Int32))))))) else ((f_X5_mayFollow sh μ v3 v6).bind fun x34 => if x34 = 0 then some (.inl (v5, (v6 + (-1 : Int32)))) else ((f_X1_at sh 11 μ (v3 ||| ((1 : Int32) <<< (v6 &&& 31)))).bind fun x50 => if x50 ≤ 0 then some (.inl (v5, (v6 + (-1 : Int32)))) else (some (.inl (v6, (v6 + (-1 : Int32)))))))
noncomputable def f_X5_placeInRow_L5 (sh : Sh) (j1 : Nat) (v2 : Int32) (μ : Mm) (v3 v4 : Int32) : Option ((Int32 × Int32) ⊕ (Int32)) :=
  if (μ (13, j1) 1) ≤ v4 then Option.map Sum.inr (α := Int32) (some (-1 : Int32)) else (Wh (fun z : Int32 × Int32 => f_X5_placeInRow_L25 sh j1 v2 v3 v4 μ z.1 z.2) ((-1 : Int32), ((μ (13, j1) 1) - (1 : Int32))))
noncomputable def f_X5_placeInRow (sh : Sh) (j1 : Nat) (μ : Mm) (v2 : Int32) : Option (Int32) :=
  Wh (fun z : Int32 × Int32 => f_X5_placeInRow_L5 sh j1 v2 μ z.1 z.2) ((0 : Int32), (0 : Int32))
noncomputable def f_X5_standInRow_L56 (sh : Sh) (j1 : Nat) (v4 v6 : Int32) (μ : Mm) (v7 v8 : Int32) : Option ((Int32 × Int32) ⊕ ((Mm × Int32) ⊕ (Int32 × Mm))) :=
  if (μ (13, j1) 1) ≤ v8 then Option.map Sum.inr (α := (Mm × Int32) ⊕ (Int32 × Mm)) ((f_X1_put sh 11 μ v6 v7).bind fun x113 => some (.inl (x113, (v6 + (-1 : Int32))))) else ((f_X5_mayFollow sh μ v6 v8).bind fun x72 => if x72 = 0 then some (.inl ((v7 + (0 : Int32)), (v8 + (1 : Int32)))) else ((f_X1_at sh 11 μ (v6 ||| ((1 : Int32) <<< (v8 &&& 31)))).bind fun x89 => some (.inl ((v7 + x89), (v8 + (1 : Int32))))))
noncomputable def f_X5_standInRow_L45 (sh : Sh) (j1 : Nat) (v4 : Int32) (μ : Mm) (v6 : Int32) : Option ((Mm × Int32) ⊕ (Int32 × Mm)) :=
  if v6 < 0 then Option.map Sum.inr (α := Int32 × Mm) (if v4 = (-1 : Int32) then (f_X1_at sh 11 μ (0 : Int32)).bind fun x133 => some (x133, μ) else ((f_X5_placeInRow sh j1 μ v4).bind fun x143 => some (x143, μ))) else (Wh (fun z : Int32 × Int32 => f_X5_standInRow_L56 sh j1 v4 v6 μ z.1 z.2) ((0 : Int32), (0 : Int32)))
noncomputable def f_X5_standInRow (sh : Sh) (j1 : Nat) (μ : Mm) (v3 v4 : Int32) : Option (Int32 × Mm) :=
  if (μ (13, j1) 1) ≤ (7 : Int32) then (f_X5_gatherPairs sh j1 μ v3).bind fun x16 => (f_X1_put sh 11 x16 (((1 : Int32) <<< ((x16 (13, j1) 1) &&& 31)) - (1 : Int32)) (1 : Int32)).bind fun x36 => Wh (fun z : Mm × Int32 => f_X5_standInRow_L45 sh j1 v4 z.1 z.2) (x36, ((((1 : Int32) <<< ((x16 (13, j1) 1) &&& 31)) - (1 : Int32)) - (1 : Int32))) else (some ((-3 : Int32), μ))
noncomputable def f_X5_tellsSayings_L3 (sh : Sh) (j1 : Nat) (v3 : Int32) (μ : Mm) (v4 : Int32) : Option ((Int32) ⊕ (Int32)) :=
  if v3 ≤ (v4 + (2 : Int32)) then Option.map Sum.inr (α := Int32) (if (v3 - v3 / (3 : Int32) * (3 : Int32)) = 0 then some (1 : Int32) else (some (0 : Int32))) else ((f_X5_personAt sh μ v4).bind fun x16 => (f_X6_hasPerson sh j1 μ x16).bind fun x19 => if x19 = 0 then Option.map Sum.inr (α := Int32) (some (0 : Int32)) else ((f_X5_personAt sh μ (v4 + (1 : Int32))).bind fun x32 => (f_X6_hasPerson sh j1 μ x32).bind fun x35 => if x35 = 0 then Option.map Sum.inr (α := Int32) (some (0 : Int32)) else ((f_X7_byteAt sh μ (v4 + (2 : Int32))).bind fun x47 => (f_X6_hasNotice sh j1 μ x47).bind fun x50 => if x50 = 0 then Option.map Sum.inr (α := Int32) (some (0 : Int32)) else (some (.inl ((v4 + (3 : Int32))))))))
noncomputable def f_X5_tellsSayings (sh : Sh) (j1 : Nat) (μ : Mm) (v3 : Int32) : Option (Int32) :=
  Wh (fun z : Int32 => f_X5_tellsSayings_L3 sh j1 v3 μ z) ((0 : Int32))
noncomputable def f_X5_liarsIn_L6 (sh : Sh) (j1 : Nat) (v3 v4 : Int32) (μ : Mm) (v5 v6 : Int32) : Option ((Int32 × Int32) ⊕ (Int32)) :=
  if v3 ≤ (v6 + (2 : Int32)) then Option.map Sum.inr (α := Int32) (some v5) else ((f_X5_personAt sh μ (v6 + (1 : Int32))).bind fun x23 => (f_X6_figure sh j1 μ v4 x23).bind fun x26 => (f_X7_byteAt sh μ (v6 + (2 : Int32))).bind fun x34 => if x26 = x34 then some (.inl (v5, (v6 + (3 : Int32)))) else ((f_X5_personAt sh μ v6).bind fun x47 => some (.inl ((v5 ||| ((1 : Int32) <<< (x47 &&& 31))), (v6 + (3 : Int32))))))
noncomputable def f_X5_liarsIn (sh : Sh) (j1 : Nat) (μ : Mm) (v3 v4 : Int32) : Option (Int32) :=
  Wh (fun z : Int32 × Int32 => f_X5_liarsIn_L6 sh j1 v3 v4 μ z.1 z.2) ((0 : Int32), (0 : Int32))
noncomputable def f_X5_whoLied_J40 (sh : Sh) (j1 : Nat) (μ : Mm) (v3 v4 v5 v6 v7 v8 s0 : Int32) : Option ((Int32 × Int32 × Int32) ⊕ (Int32)) :=
  (f_X6_stands sh j1 μ v8).bind fun x45 => if x45 = 0 then some (.inl (v6, v7, (v8 + (1 : Int32)))) else ((f_J6_bitCount_0f7a4 s0).bind fun x53 => if v4 < x53 then some (.inl (v6, v7, (v8 + (1 : Int32)))) else (some (.inl ((v6 + (1 : Int32)), (v7 ||| s0), (v8 + (1 : Int32))))))
noncomputable def f_X5_whoLied_L9 (sh : Sh) (j1 : Nat) (v3 v4 v5 : Int32) (μ : Mm) (v6 v7 v8 : Int32) : Option ((Int32 × Int32 × Int32) ⊕ (Int32)) :=
  if (μ (13, j1) 2) ≤ v8 then Option.map Sum.inr (α := Int32) (if v5 = 0 then some v6 else (some v7)) else ((f_X6_stands sh j1 μ v8).bind fun x21 => if x21 = 0 then f_X5_whoLied_J40 sh j1 μ v3 v4 v5 v6 v7 v8 (0 : Int32) else ((f_X5_liarsIn sh j1 μ v3 v8).bind fun x33 => f_X5_whoLied_J40 sh j1 μ v3 v4 v5 v6 v7 v8 x33))
noncomputable def f_X5_whoLied (sh : Sh) (j1 : Nat) (μ : Mm) (v3 v4 v5 : Int32) : Option (Int32) :=
  Wh (fun z : Int32 × Int32 × Int32 => f_X5_whoLied_L9 sh j1 v3 v4 v5 μ z.1 z.2.1 z.2.2) ((0 : Int32), (0 : Int32), (0 : Int32))
noncomputable def f_X5_gatherFriends_L2 (sh : Sh) (j1 : Nat) (μ : Mm) (v2 : Int32) : Option ((Mm × Int32) ⊕ (Mm)) :=
  if (μ (13, j1) 1) ≤ v2 then Option.map Sum.inr (α := Mm) (some μ) else ((f_X4_knownBits sh j1 μ v2).bind fun x21 => (f_X1_put sh 13 μ v2 x21).bind fun x24 => some (.inl (x24, (v2 + (1 : Int32)))))
noncomputable def f_X5_gatherFriends (sh : Sh) (j1 : Nat) (μ : Mm) : Option (Mm) :=
  Wh (fun z : Mm × Int32 => f_X5_gatherFriends_L2 sh j1 z.1 z.2) (μ, (0 : Int32))
noncomputable def f_X5_mayPair (sh : Sh) (μ : Mm) (v1 v2 v3 : Int32) : Option (Int32) :=
  if ((v1 >>> (v3 &&& 31)) &&& (1 : Int32)) = (1 : Int32) then (f_X1_at sh 13 μ v2).bind fun x14 => if ((x14 >>> (v3 &&& 31)) &&& (1 : Int32)) = (1 : Int32) then (f_X1_at sh 13 μ v3).bind fun x30 => if ((x30 >>> (v2 &&& 31)) &&& (1 : Int32)) = (1 : Int32) then some (1 : Int32) else (some (0 : Int32)) else (some (0 : Int32)) else (some (0 : Int32))
noncomputable def f_X5_partnerOf_L44 (sh : Sh) (j1 : Nat) (v2 v3 v4 : Int32) (μ : Mm) (v5 v6 : Int32) : Option ((Int32 × Int32) ⊕ ((Int32 × Int32) ⊕ (Int32))) :=
  if v6 ≤ v4 then Option.map Sum.inr (α := (Int32 × Int32) ⊕ (Int32)) (if v4 = v2 then Option.map Sum.inr (α := Int32) (if v4 = v2 then some v5 else (some v4)) else (if v5 = v2 then Option.map Sum.inr (α := Int32) (if v4 = v2 then some v5 else (some v4)) else (if v5 = (-1 : Int32) then some (.inl ((v3 &&& ((((1 : Int32) <<< (v4 &&& 31)) ||| (0 : Int32)) ^^^ (-1 : Int32))), (v4 + (1 : Int32)))) else (some (.inl ((v3 &&& ((((1 : Int32) <<< (v4 &&& 31)) ||| ((1 : Int32) <<< (v5 &&& 31))) ^^^ (-1 : Int32))), (v4 + (1 : Int32)))))))) else ((f_X5_mayPair sh μ v3 v4 v6).bind fun x57 => if x57 = 0 then some (.inl (v5, (v6 + (-1 : Int32)))) else ((f_X1_at sh 11 μ (v3 &&& ((((1 : Int32) <<< (v4 &&& 31)) ||| ((1 : Int32) <<< (v6 &&& 31))) ^^^ (-1 : Int32)))).bind fun x81 => (f_X1_at sh 11 μ v3).bind fun x90 => if ((1 : Int32) + x81) = x90 then some (.inl (v6, (v6 + (-1 : Int32)))) else (some (.inl (v5, (v6 + (-1 : Int32)))))))
noncomputable def f_X5_partnerOf_L12 (sh : Sh) (j1 : Nat) (v2 : Int32) (μ : Mm) (v3 v4 : Int32) : Option ((Int32 × Int32) ⊕ (Int32)) :=
  if (μ (13, j1) 1) ≤ v4 then Option.map Sum.inr (α := Int32) (some (-1 : Int32)) else (if ((v3 >>> (v4 &&& 31)) &&& (1 : Int32)) = 0 then some (.inl (v3, (v4 + (1 : Int32)))) else (Wh (fun z : Int32 × Int32 => f_X5_partnerOf_L44 sh j1 v2 v3 v4 μ z.1 z.2) ((-1 : Int32), ((μ (13, j1) 1) - (1 : Int32)))))
noncomputable def f_X5_partnerOf (sh : Sh) (j1 : Nat) (μ : Mm) (v2 : Int32) : Option (Int32) :=
  Wh (fun z : Int32 × Int32 => f_X5_partnerOf_L12 sh j1 v2 μ z.1 z.2) ((((1 : Int32) <<< ((μ (13, j1) 1) &&& 31)) - (1 : Int32)), (0 : Int32))
noncomputable def f_X5_marry_L61 (sh : Sh) (j1 : Nat) (v2 v3 v4 v5 : Int32) (μ : Mm) (v6 v7 : Int32) : Option ((Int32 × Int32) ⊕ ((Mm × Int32) ⊕ (Int32 × Mm))) :=
  if (μ (13, j1) 1) ≤ v7 then Option.map Sum.inr (α := (Mm × Int32) ⊕ (Int32 × Mm)) ((f_X1_put sh 11 μ v4 v6).bind fun x127 => some (.inl (x127, (v4 + (1 : Int32))))) else ((f_X5_mayPair sh μ v4 v5 v7).bind fun x77 => if x77 = 0 then some (.inl (v6, (v7 + (1 : Int32)))) else ((f_X1_at sh 11 μ (v4 &&& ((((1 : Int32) <<< (v5 &&& 31)) ||| ((1 : Int32) <<< (v7 &&& 31))) ^^^ (-1 : Int32)))).bind fun x104 => some (.inl ((if v6 < ((1 : Int32) + x104) then ((1 : Int32) + x104) else v6), (v7 + (1 : Int32))))))
noncomputable def f_X5_marry_L24 (sh : Sh) (j1 : Nat) (v2 v3 : Int32) (μ : Mm) (v4 : Int32) : Option ((Mm × Int32) ⊕ (Int32 × Mm)) :=
  if v3 ≤ v4 then Option.map Sum.inr (α := Int32 × Mm) (if v2 = (-1 : Int32) then (f_X1_at sh 11 μ (v3 - (1 : Int32))).bind fun x148 => some (x148, μ) else ((f_X5_partnerOf sh j1 μ v2).bind fun x157 => some (x157, μ))) else ((f_J6_numberOfTrailingZeros_0f7a4 v4).bind fun x32 => (f_X1_at sh 11 μ (v4 &&& (((1 : Int32) <<< (x32 &&& 31)) ^^^ (-1 : Int32)))).bind fun x50 => Wh (fun z : Int32 × Int32 => f_X5_marry_L61 sh j1 v2 v3 v4 x32 μ z.1 z.2) (x50, (x32 + (1 : Int32))))
noncomputable def f_X5_marry (sh : Sh) (j1 : Nat) (μ : Mm) (v2 : Int32) : Option (Int32 × Mm) :=
  (f_X5_gatherFriends sh j1 μ).bind fun x2 => (f_X1_put sh 11 x2 (0 : Int32) (0 : Int32)).bind fun x18 => Wh (fun z : Mm × Int32 => f_X5_marry_L24 sh j1 v2 ((1 : Int32) <<< ((x2 (13, j1) 1) &&& 31)) z.1 z.2) (x18, (1 : Int32))
noncomputable def f_X0_treatOne_L26 (sh : Sh) (j1 : Nat) (v2 v3 v4 v5 : Int32) (μ : Mm) (v6 : Int32) : Option ((Mm × Int32) ⊕ (Int32 × Mm)) :=
  if (μ (13, j1) 1) ≤ v6 then Option.map Sum.inr (α := Int32 × Mm) (if v4 = 0 then (f_X4_sureBits sh j1 (15 + 5 * j1 + 2) μ).bind fun x86 => (f_X6_note sh j1 μ (0 : Int32) v2 v3 v5 x86).bind fun x89 => some (v5, x89) else ((f_X4_sureBits sh j1 (15 + 5 * j1 + 2) μ).bind fun x86 => (f_X6_note sh j1 μ (1 : Int32) v2 v3 v5 x86).bind fun x89 => some (v5, x89))) else (if v4 = 0 then if v6 = v3 then (f_X4_split sh j1 μ v6).bind fun x53 => some (.inl (x53, (v6 + (1 : Int32)))) else (some (.inl (μ, (v6 + (1 : Int32))))) else ((f_X4_split sh j1 μ v6).bind fun x53 => some (.inl (x53, (v6 + (1 : Int32))))))
noncomputable def f_X0_treatOne (sh : Sh) (j1 : Nat) (μ : Mm) (v2 v3 v4 : Int32) : Option (Int32 × Mm) :=
  (f_X4_meet sh j1 μ v2 v3).bind fun x7 => (f_X4_mannerIn sh x7 (x7 (13, j1) 3)).bind fun x18 => Wh (fun z : Mm × Int32 => f_X0_treatOne_L26 sh j1 v2 v3 v4 x18 z.1 z.2) (x7, (0 : Int32))
noncomputable def f_X0_turnTo (sh : Sh) (j1 : Nat) (μ : Mm) (v2 v3 : Int32) : Option (Int32 × Mm) :=
  (f_X4_look sh j1 μ v2 v3).bind fun x7 => (f_X6_figure sh j1 x7 (x7 (13, j1) 3) v3).bind fun x16 => (f_X4_sureBits sh j1 (15 + 5 * j1 + 2) x7).bind fun x36 => (f_X6_note sh j1 x7 (2 : Int32) v2 v3 x16 x36).bind fun x39 => some (x16, x39)
noncomputable def f_X0_heardByAll (sh : Sh) (j1 : Nat) (μ : Mm) : Option (Int32 × Mm) :=
  (f_X4_heed sh j1 (15 + 5 * j1 + 2) μ).bind fun x9 => (f_X4_saidIn sh x9.2 (x9.2 (13, j1) 3)).bind fun x21 => some (x21, x9.2)
noncomputable def f_X0_askOne (sh : Sh) (j1 : Nat) (μ : Mm) (v2 : Int32) : Option (Int32 × Mm) :=
  (f_X4_sayWhetherSure sh j1 μ v2).bind fun x6 => (f_X0_heardByAll sh j1 x6).bind fun x11 => (f_X4_sureBits sh j1 (15 + 5 * j1 + 2) x11.2).bind fun x29 => (f_X6_note sh j1 x11.2 (3 : Int32) v2 (-1 : Int32) x11.1 x29).bind fun x32 => if x11.1 = (1 : Int32) then some ((1 : Int32), x32) else (some ((0 : Int32), x32))
noncomputable def f_X0_askAll (sh : Sh) (j1 : Nat) (μ : Mm) : Option (Int32 × Mm) :=
  (f_X4_sayWhoIsSure sh j1 (15 + 5 * j1 + 2) μ).bind fun x9 => (f_X0_heardByAll sh j1 x9).bind fun x14 => (f_X4_sureBits sh j1 (15 + 5 * j1 + 2) (mst x14.2 (13, j1) 4 ((x14.2 (13, j1) 4) + (1 : Int32)))).bind fun x42 => (f_X6_note sh j1 (mst x14.2 (13, j1) 4 ((x14.2 (13, j1) 4) + (1 : Int32))) (4 : Int32) (-1 : Int32) (-1 : Int32) x14.1 x42).bind fun x45 => some (x14.1, x45)
noncomputable def f_X0_readOut (sh : Sh) (j1 : Nat) (μ : Mm) (v2 : Int32) : Option (Int32 × Mm) :=
  (f_X4_sayNotice sh j1 μ v2).bind fun x6 => (f_X0_heardByAll sh j1 x6).bind fun x11 => (f_X4_sureBits sh j1 (15 + 5 * j1 + 2) x11.2).bind fun x29 => (f_X6_note sh j1 x11.2 (5 : Int32) v2 (-1 : Int32) x11.1 x29).bind fun x32 => some (x11.1, x32)
noncomputable def f_X0_claimMany (sh : Sh) (j1 : Nat) (μ : Mm) (v2 v3 : Int32) : Option (Int32 × Mm) :=
  (f_X4_sayWhetherMany sh j1 μ v2 v3 (1 : Int32)).bind fun x8 => (f_X0_heardByAll sh j1 x8).bind fun x13 => (f_X4_sureBits sh j1 (15 + 5 * j1 + 2) x13.2).bind fun x32 => (f_X6_note sh j1 x13.2 (6 : Int32) v3 (-1 : Int32) v2 x32).bind fun x35 => (f_X6_many sh j1 x35 (x35 (13, j1) 3) v3).bind fun x44 => some (x44, x35)
noncomputable def f_X0_queryOne (sh : Sh) (j1 : Nat) (μ : Mm) (v2 v3 v4 : Int32) : Option (Int32 × Mm) :=
  (f_X4_sayAnswer sh j1 (15 + 5 * j1 + 2) μ v2 v3 v4).bind fun x13 => (f_X0_heardByAll sh j1 x13).bind fun x18 => (f_X4_sureBits sh j1 (15 + 5 * j1 + 2) x18.2).bind fun x39 => (f_X6_note sh j1 x18.2 (7 : Int32) v2 v3 x18.1 x39).bind fun x42 => some (x18.1, x42)
noncomputable def f_X0_strollBy_L15 (sh : Sh) (j1 : Nat) (v2 : Int32) (μ : Mm) (v3 v4 : Int32) : Option ((Mm × Int32 × Int32) ⊕ (Int32 × Mm)) :=
  if v2 ≤ v4 then Option.map Sum.inr (α := Int32 × Mm) (some (v3, μ)) else ((f_X6_draw sh j1 μ).bind fun x22 => cd (x22.2 (13, j1) 1) ((f_X6_draw sh j1 x22.2).bind fun x33 => cd (x33.2 (13, j1) 1) (if (x22.1 - x22.1 / (x22.2 (13, j1) 1) * (x22.2 (13, j1) 1)) = (x33.1 - x33.1 / (x33.2 (13, j1) 1) * (x33.2 (13, j1) 1)) then some (.inl (x33.2, v3, (v4 + (1 : Int32)))) else ((f_X6_hasSight sh j1 x33.2 (x22.1 - x22.1 / (x22.2 (13, j1) 1) * (x22.2 (13, j1) 1)) (x33.1 - x33.1 / (x33.2 (13, j1) 1) * (x33.2 (13, j1) 1))).bind fun x55 => if x55 = 0 then some (.inl (x33.2, v3, (v4 + (1 : Int32)))) else ((f_X0_treatOne sh j1 x33.2 (x22.1 - x22.1 / (x22.2 (13, j1) 1) * (x22.2 (13, j1) 1)) (x33.1 - x33.1 / (x33.2 (13, j1) 1) * (x33.2 (13, j1) 1)) (0 : Int32)).bind fun x68 => some (.inl (x68.2, (v3 + (1 : Int32)), (v4 + (1 : Int32)))))))))
noncomputable def f_X0_strollBy (sh : Sh) (j1 : Nat) (μ : Mm) (v2 : Int32) : Option (Int32 × Mm) :=
  if (1 : Int32) ≤ (μ (13, j1) 1) then Wh (fun z : Mm × Int32 × Int32 => f_X0_strollBy_L15 sh j1 v2 z.1 z.2.1 z.2.2) (μ, (0 : Int32), (0 : Int32)) else (some ((0 : Int32), μ))
noncomputable def f_X10_feed (sh : Sh) (μ : Mm) (v1 v2 v3 v4 v5 : Int32) : Option (Int32 × Mm) :=
  (f_X7_hasRoomFor sh μ (20 : Int32)).bind fun x6 => if x6 = 0 then some ((-1 : Int32), μ) else ((f_X7_put sh μ v1).bind fun x19 => (f_X7_put sh x19 v2).bind fun x27 => (f_X7_put sh x27 v3).bind fun x35 => (f_X7_put sh x35 v4).bind fun x44 => (f_X7_put sh x44 v5).bind fun x53 => (f_X7_size sh x53).bind fun x60 => some (x60, x53))
noncomputable def f_X10_end (sh : Sh) (μ : Mm) (v1 : Int32) : Option (Int32 × Mm) :=
  (f_X7_cut sh μ v1).bind fun x5 => cb x5.1 (some (x5.1, x5.2))
noncomputable def f_X10_fault (sh : Sh) (μ : Mm) : Option (Int32) :=
  some (μ (0, 0) 12)
noncomputable def f_X10_needPerson (sh : Sh) (μ : Mm) (v1 : Int32) : Option (Unit) :=
  (f_X6_hasPerson sh (sh 4 0) μ v1).bind fun x5 => if x5 = 0 then none else (some ())
noncomputable def f_X10_person (sh : Sh) (μ : Mm) (v1 v2 : Int32) : Option (Int32) :=
  (f_X10_needPerson sh μ v1).bind fun x2 => if v2 = (0 : Int32) then (f_X6_figure sh (sh 4 0) μ (μ (13, sh 4 0) 3) v1).bind fun x56 => some x56 else (if v2 = (1 : Int32) then (f_X1_at sh (15 + 5 * (sh 4 0) + 1) μ v1).bind fun x68 => some x68 else (if v2 = (2 : Int32) then (f_X6_seers sh (sh 4 0) μ v1).bind fun x77 => some x77 else (if v2 = (3 : Int32) then (f_X4_isSure sh (sh 4 0) (15 + 5 * (sh 4 0) + 2) μ v1 (μ (13, sh 4 0) 3)).bind fun x104 => if x104 = 0 then some (0 : Int32) else (some (1 : Int32)) else (if v2 = (4 : Int32) then (f_X4_holds sh (sh 4 0) μ v1).bind fun x125 => some x125 else (if v2 = (5 : Int32) then (f_X4_knownBits sh (sh 4 0) μ v1).bind fun x138 => some x138 else (none))))))
noncomputable def f_X10_needWorld (sh : Sh) (μ : Mm) (v1 : Int32) : Option (Unit) :=
  (f_X6_hasWorld sh (sh 4 0) μ v1).bind fun x5 => if x5 = 0 then none else (some ())
noncomputable def f_X10_left (sh : Sh) (μ : Mm) (v1 : Int32) : Option (Int32) :=
  (f_X10_needWorld sh μ v1).bind fun x2 => (f_X6_stands sh (sh 4 0) μ v1).bind fun x10 => cb x10 (some x10)
noncomputable def f_X10_needLeft (sh : Sh) (μ : Mm) (v1 : Int32) : Option (Unit) :=
  (f_X6_stands sh (sh 4 0) μ v1).bind fun x5 => if x5 = 0 then none else (some ())
noncomputable def f_X10_apart (sh : Sh) (μ : Mm) (v1 v2 v3 : Int32) : Option (Int32) :=
  (f_X10_needPerson sh μ v1).bind fun x2 => (f_X10_needWorld sh μ v2).bind fun x7 => (f_X10_needWorld sh μ v3).bind fun x12 => (f_X10_needLeft sh μ v2).bind fun x17 => (f_X10_needLeft sh μ v3).bind fun x22 => (f_X6_group sh (sh 4 0) μ v1 v2).bind fun x31 => (f_X6_group sh (sh 4 0) μ v1 v3).bind fun x40 => if x31 = x40 then some (0 : Int32) else (some (1 : Int32))
noncomputable def f_X10_sure (sh : Sh) (μ : Mm) (v1 v2 : Int32) : Option (Int32) :=
  (f_X10_needPerson sh μ v1).bind fun x2 => (f_X10_needWorld sh μ v2).bind fun x7 => (f_X10_needLeft sh μ v2).bind fun x12 => (f_X4_isSure sh (sh 4 0) (15 + 5 * (sh 4 0) + 2) μ v1 v2).bind fun x32 => cb x32 (some x32)
noncomputable def f_X10_needTwo (v1 v2 : Int32) : Option (Unit) :=
  if v1 = v2 then none else (some ())
noncomputable def f_X10_needSight (sh : Sh) (μ : Mm) (v1 v2 : Int32) : Option (Unit) :=
  (f_X6_hasSight sh (sh 4 0) μ v1 v2).bind fun x6 => if x6 = 0 then none else (some ())
noncomputable def f_X10_manner (sh : Sh) (μ : Mm) (v1 v2 v3 : Int32) : Option (Int32 × Mm) :=
  (f_X10_needPerson sh μ v1).bind fun x2 => (f_X10_needPerson sh μ v2).bind fun x7 => (f_X10_needWorld sh μ v3).bind fun x12 => (f_X10_needTwo v1 v2).bind fun x18 => (f_X10_needLeft sh μ v3).bind fun x23 => (f_X10_needSight sh μ v1 v2).bind fun x29 => (f_X4_meet sh (sh 4 0) μ v1 v2).bind fun x42 => (f_X4_mannerIn sh x42 v3).bind fun x50 => some (x50, x42)
noncomputable def f_X10_needNotice (sh : Sh) (μ : Mm) (v1 : Int32) : Option (Unit) :=
  (f_X6_hasNotice sh (sh 4 0) μ v1).bind fun x5 => if x5 = 0 then none else (some ())
noncomputable def f_X10_needNumber (v1 v2 v3 : Int32) : Option (Unit) :=
  if v1 < v2 then none else (if v1 ≤ v3 then some () else (none))
noncomputable def f_X10_possible (sh : Sh) (μ : Mm) (v1 v2 : Int32) : Option (Int32) :=
  (f_X10_needPerson sh μ v1).bind fun x2 => (f_X10_needPerson sh μ v2).bind fun x7 => (f_X4_possibleBits sh (sh 4 0) (15 + 5 * (sh 4 0) + 2) μ v1 v2 (μ (13, sh 4 0) 3)).bind fun x34 => some x34
noncomputable def f_X10_knows (sh : Sh) (μ : Mm) (v1 v2 : Int32) : Option (Int32) :=
  (f_X10_needPerson sh μ v1).bind fun x2 => (f_X10_needPerson sh μ v2).bind fun x7 => (f_X4_possibleBits sh (sh 4 0) (15 + 5 * (sh 4 0) + 2) μ v1 v2 (μ (13, sh 4 0) 3)).bind fun x38 => (f_X4_onlyOne x38).bind fun x41 => some x41
noncomputable def f_X10_thinks (sh : Sh) (μ : Mm) (v1 v2 v3 : Int32) : Option (Int32 × Mm) :=
  (f_X10_needPerson sh μ v1).bind fun x2 => (f_X10_needPerson sh μ v2).bind fun x7 => (f_X10_needPerson sh μ v3).bind fun x12 => (f_X4_knowsThat sh (sh 4 0) μ v1 v2 v3).bind fun x26 => cb x26.1 (some (x26.1, x26.2))
noncomputable def f_X10_common (sh : Sh) (μ : Mm) (v1 : Int32) : Option (Int32 × Mm) :=
  (f_X10_needPerson sh μ v1).bind fun x2 => (f_X4_knownByAll sh (sh 4 0) μ v1).bind fun x14 => some (x14.1, x14.2)
noncomputable def f_X10_needPersonOrNone (sh : Sh) (μ : Mm) (v1 : Int32) : Option (Unit) :=
  if v1 = (-1 : Int32) then some () else ((f_X10_needPerson sh μ v1).bind fun x7 => some ())
noncomputable def f_X10_muddy (sh : Sh) (μ : Mm) (v1 : Int32) : Option (Int32 × Mm) :=
  (f_X10_needPersonOrNone sh μ v1).bind fun x2 => (f_X4_daysUntilSure sh (sh 4 0) μ v1).bind fun x14 => some (x14.1, x14.2)
noncomputable def f_X10_backs (sh : Sh) (μ : Mm) (v1 : Int32) : Option (Int32 × Mm) :=
  (f_X10_needPerson sh μ v1).bind fun x2 => (f_X5_fewestBacks sh (sh 4 0) μ v1).bind fun x14 => some (x14.1, x14.2)
noncomputable def f_X10_gives (sh : Sh) (μ : Mm) (v1 : Int32) : Option (Int32 × Mm) :=
  (f_X10_needPerson sh μ v1).bind fun x2 => (f_X4_whoGivesAway sh (sh 4 0) μ v1).bind fun x14 => some (x14.1, x14.2)
noncomputable def f_X10_never (sh : Sh) (μ : Mm) (v1 : Int32) : Option (Int32 × Mm) :=
  (f_X10_needPerson sh μ v1).bind fun x2 => (f_X4_whoNeverGivesAway sh (sh 4 0) μ v1).bind fun x14 => some (x14.1, x14.2)
noncomputable def f_X10_question (sh : Sh) (μ : Mm) (v1 : Int32) : Option (Int32 × Mm) :=
  (f_X10_needPerson sh μ v1).bind fun x2 => (f_X5_firstQuestion sh (sh 4 0) μ v1).bind fun x14 => some (x14.1, x14.2)
noncomputable def f_X10_queries (sh : Sh) (μ : Mm) (v1 : Int32) : Option (Int32 × Mm) :=
  (f_X10_needPerson sh μ v1).bind fun x2 => (f_X5_fewestQueries sh (sh 4 0) μ v1).bind fun x14 => some (x14.1, x14.2)
noncomputable def f_X10_spill (sh : Sh) (μ : Mm) (v1 : Int32) : Option (Int32 × Mm) :=
  (f_X10_needPerson sh μ v1).bind fun x2 => (f_X4_spilledBy sh (sh 4 0) μ v1).bind fun x14 => some (x14.1, x14.2)
noncomputable def f_X10_quiet_L4 (sh : Sh) (μ : Mm) (v1 v2 : Int32) : Option ((Mm × Int32 × Int32) ⊕ (Int32 × Mm)) :=
  if (μ (13, sh 4 0) 1) ≤ v2 then Option.map Sum.inr (α := Int32 × Mm) (some (v1, μ)) else ((f_X4_spilledBy sh (sh 4 0) μ v2).bind fun x24 => if x24.1 = 0 then some (.inl (x24.2, (v1 ||| ((1 : Int32) <<< (v2 &&& 31))), (v2 + (1 : Int32)))) else (some (.inl (x24.2, v1, (v2 + (1 : Int32))))))
noncomputable def f_X10_quiet (sh : Sh) (μ : Mm) : Option (Int32 × Mm) :=
  Wh (fun z : Mm × Int32 × Int32 => f_X10_quiet_L4 sh z.1 z.2.1 z.2.2) (μ, (0 : Int32), (0 : Int32))
noncomputable def f_X10_game (sh : Sh) (μ : Mm) (v1 v2 : Int32) : Option (Int32 × Mm) :=
  (f_X10_needPerson sh μ v1).bind fun x2 => (f_X5_playGame sh (sh 4 0) μ v1 v2).bind fun x15 => some (x15.1, x15.2)
noncomputable def f_X10_steps (sh : Sh) (μ : Mm) (v1 v2 : Int32) : Option (Int32) :=
  (f_X10_needPerson sh μ v1).bind fun x2 => (f_X10_needPerson sh μ v2).bind fun x7 => (f_X5_stepsBetween sh (sh 4 0) μ v1 v2).bind fun x20 => some x20
noncomputable def f_X10_sureBehindStroll (sh : Sh) (μ : Mm) (v1 v2 : Int32) : Option (Int32 × Mm) :=
  (f_X6_become sh (sh 4 1) (sh 4 0) μ).bind fun x8 => (f_X0_strollBy sh (sh 4 1) (mst x8 (13, sh 4 1) 5 v2) v1).bind fun x28 => (f_X4_sureBits sh (sh 4 1) (15 + 5 * (sh 4 1) + 2) x28.2).bind fun x47 => some (x47, x28.2)
noncomputable def f_X10_trial (sh : Sh) (μ : Mm) (v1 : Int32) : Option (Int32 × Mm) :=
  (f_X10_needNumber v1 (0 : Int32) (30 : Int32)).bind fun x5 => (f_X10_sureBehindStroll sh μ v1 (μ (13, sh 4 0) 5)).bind fun x17 => some (x17.1, x17.2)
noncomputable def f_X10_span_L21 (sh : Sh) (v1 v2 : Int32) (μ : Mm) (v3 v4 : Int32) : Option ((Mm × Int32 × Int32) ⊕ (Int32 × Mm)) :=
  if (6 : Int32) < v4 then Option.map Sum.inr (α := Int32 × Mm) (some (v3, μ)) else ((f_X10_sureBehindStroll sh μ v1 v4).bind fun x32 => (f_J6_bitCount_0f7a4 x32.1).bind fun x35 => if v2 = 0 then some (.inl (x32.2, (if x35 < v3 then x35 else v3), (v4 + (1 : Int32)))) else (some (.inl (x32.2, (if v3 < x35 then x35 else v3), (v4 + (1 : Int32))))))
noncomputable def f_X10_span (sh : Sh) (μ : Mm) (v1 v2 : Int32) : Option (Int32 × Mm) :=
  (f_X10_needNumber v1 (0 : Int32) (30 : Int32)).bind fun x5 => (f_X10_sureBehindStroll sh μ v1 (1 : Int32)).bind fun x11 => (f_J6_bitCount_0f7a4 x11.1).bind fun x14 => Wh (fun z : Mm × Int32 × Int32 => f_X10_span_L21 sh v1 v2 z.1 z.2.1 z.2.2) (x11.2, x14, (2 : Int32))
noncomputable def f_X10_nth (sh : Sh) (μ : Mm) (v1 v2 : Int32) : Option (Int32) :=
  (f_X10_needPersonOrNone sh μ v1).bind fun x2 => (f_X4_heldAt sh (sh 4 0) μ v1 v2).bind fun x15 => some x15
noncomputable def f_X10_guess (sh : Sh) (μ : Mm) (v1 : Int32) : Option (Int32 × Mm) :=
  (f_X10_needPerson sh μ v1).bind fun x2 => (f_X4_guessIn sh (sh 4 0) μ v1 (μ (13, sh 4 0) 3)).bind fun x21 => some (x21.1, x21.2)
noncomputable def f_X10_right (sh : Sh) (μ : Mm) (v1 : Int32) : Option (Int32 × Mm) :=
  (f_X10_needPersonOrNone sh μ v1).bind fun x2 => (f_X4_rightGuesses sh (sh 4 0) μ v1).bind fun x14 => some (x14.1, x14.2)
noncomputable def f_X10_rows (sh : Sh) (μ : Mm) (v1 : Int32) : Option (Int32 × Mm) :=
  (f_X7_use sh μ).bind fun x4 => (f_X5_tellsPairs sh (sh 4 0) x4.2 x4.1).bind fun x21 => if x21 = 0 then none else (if (-1 : Int32) ≤ v1 then (f_X5_standInRow sh (sh 4 0) x4.2 x4.1 v1).bind fun x57 => some (x57.1, x57.2) else (none))
noncomputable def f_X10_liars (sh : Sh) (μ : Mm) (v1 v2 : Int32) : Option (Int32 × Mm) :=
  (f_X7_use sh μ).bind fun x4 => (f_X5_tellsSayings sh (sh 4 0) x4.2 x4.1).bind fun x21 => if x21 = 0 then none else (if v1 < 0 then none else (if v1 ≤ (9 : Int32) then (f_X5_whoLied sh (sh 4 0) x4.2 x4.1 v1 v2).bind fun x63 => some (x63, x4.2) else (none)))
noncomputable def f_X10_married (sh : Sh) (μ : Mm) (v1 : Int32) : Option (Int32 × Mm) :=
  (f_X10_needPersonOrNone sh μ v1).bind fun x2 => (f_X5_marry sh (sh 4 0) μ v1).bind fun x14 => some (x14.1, x14.2)
noncomputable def f_X10_led_L9 (sh : Sh) (v1 : Int32) (μ : Mm) (v2 v3 : Int32) : Option ((Int32 × Int32) ⊕ (Int32)) :=
  if (μ (13, sh 4 0) 14) ≤ v3 then Option.map Sum.inr (α := Int32) (some v2) else ((f_X6_noted sh (sh 4 0) μ v3 (4 : Int32)).bind fun x26 => if ((x26 >>> (v1 &&& 31)) &&& (1 : Int32)) = 0 then Option.map Sum.inr (α := Int32) (some v2) else (some (.inl (v3, (v3 + (1 : Int32))))))
noncomputable def f_X10_led (sh : Sh) (μ : Mm) (v1 : Int32) : Option (Int32) :=
  (f_X10_needPerson sh μ v1).bind fun x2 => Wh (fun z : Int32 × Int32 => f_X10_led_L9 sh v1 μ z.1 z.2) ((-1 : Int32), (0 : Int32))
noncomputable def f_X10_widest_L6 (sh : Sh) (μ : Mm) (v1 v2 v3 : Int32) : Option ((Int32 × Int32 × Int32) ⊕ (Int32)) :=
  if (μ (13, sh 4 0) 1) ≤ v3 then Option.map Sum.inr (α := Int32) (some v1) else ((f_X4_holds sh (sh 4 0) μ v3).bind fun x26 => if x26 ≤ v2 then some (.inl (v1, v2, (v3 + (1 : Int32)))) else (some (.inl (v3, x26, (v3 + (1 : Int32))))))
noncomputable def f_X10_widest (sh : Sh) (μ : Mm) : Option (Int32) :=
  Wh (fun z : Int32 × Int32 × Int32 => f_X10_widest_L6 sh μ z.1 z.2.1 z.2.2) ((-1 : Int32), (0 : Int32), (0 : Int32))
noncomputable def f_X10_under_L6 (sh : Sh) (μ : Mm) (v1 v2 v3 : Int32) : Option ((Int32 × Int32 × Int32) ⊕ (Int32)) :=
  if (μ (13, sh 4 0) 1) ≤ v3 then Option.map Sum.inr (α := Int32) (some v1) else ((f_X4_manyPossible sh (sh 4 0) μ v3).bind fun x26 => if v1 = (-1 : Int32) then some (.inl (v3, x26, (v3 + (1 : Int32)))) else (if v2 ≤ x26 then some (.inl (v1, v2, (v3 + (1 : Int32)))) else (some (.inl (v3, x26, (v3 + (1 : Int32)))))))
noncomputable def f_X10_under (sh : Sh) (μ : Mm) : Option (Int32) :=
  Wh (fun z : Int32 × Int32 × Int32 => f_X10_under_L6 sh μ z.1 z.2.1 z.2.2) ((-1 : Int32), (0 : Int32), (0 : Int32))
noncomputable def f_X10_log (sh : Sh) (μ : Mm) (v1 v2 : Int32) : Option (Int32) :=
  if v2 < 0 then none else (if v2 < (5 : Int32) then (f_X6_noted sh (sh 4 0) μ v1 v2).bind fun x26 => some x26 else (none))
noncomputable def f_X10_seed (sh : Sh) (μ : Mm) (v1 : Int32) : Option (Int32 × Mm) :=
  some ((μ (13, sh 4 0) 5), (mst μ (13, sh 4 0) 5 v1))
noncomputable def f_X10_count (sh : Sh) (μ : Mm) (v1 : Int32) : Option (Int32) :=
  if v1 = (0 : Int32) then some (μ (13, sh 4 0) 1) else (if v1 = (1 : Int32) then some (μ (13, sh 4 0) 0) else (if v1 = (2 : Int32) then some (μ (13, sh 4 0) 6) else (if v1 = (3 : Int32) then if sh 3 (sh 4 0) = 0 then some (-1 : Int32) else (if sh 3 (sh 4 0) = 0 then none else ((f_X2_lines sh (sh 3 (sh 4 0) - 1) μ).bind fun x105 => some x105)) else (if v1 = (4 : Int32) then some (μ (13, sh 4 0) 4) else (if v1 = (5 : Int32) then some (μ (13, sh 4 0) 2) else (if v1 = (6 : Int32) then (f_X4_manyLeft sh (sh 4 0) μ).bind fun x133 => some x133 else (if v1 = (7 : Int32) then some (μ (13, sh 4 0) 3) else (if v1 = (8 : Int32) then (f_X4_sureBits sh (sh 4 0) (15 + 5 * (sh 4 0) + 2) μ).bind fun x160 => some x160 else (if v1 = (9 : Int32) then some (μ (13, sh 4 0) 14) else (if v1 = (10 : Int32) then some (μ (0, 0) 8) else (some (-1 : Int32))))))))))))
noncomputable def f_X10_forgetPast (sh : Sh) (μ : Mm) : Option (Mm) :=
  some ((mst μ (0, 0) 8 (0 : Int32)))
