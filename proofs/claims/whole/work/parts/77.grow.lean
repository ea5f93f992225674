theorem kw_197 : (Cond.arrayClass .int) ∈ GW := gw_1 (i := 61) (by decide +kernel) rfl
theorem kw_566 : (Cond.methodLink "BackVillage$Cells" 27 ⟨"java/util/Arrays", "copyOf", "([II)[I"⟩) ∈ GW := gw_2 (i := 190) (by decide +kernel) rfl
theorem kw_567 : (Cond.static ⟨"java/util/Arrays", "copyOf", "([II)[I"⟩) ∈ GW := gw_2 (i := 191) (by decide +kernel) rfl
theorem kw_568 : (Cond.code ⟨"java/util/Arrays", "copyOf", "([II)[I"⟩ prog_38_method_123_code 3 (some (.array .int))) ∈ GW := gw_2 (i := 192) (by decide +kernel) rfl
theorem kw_576 : (Cond.methodLink "java/util/Arrays" 304 ⟨"java/lang/Math", "min", "(II)I"⟩) ∈ GW := gw_2 (i := 200) (by decide +kernel) rfl
theorem kw_577 : (Cond.methodLink "java/util/Arrays" 150 ⟨"java/lang/System", "arraycopy", "(Ljava/lang/Object;ILjava/lang/Object;II)V"⟩) ∈ GW := gw_2 (i := 201) (by decide +kernel) rfl
theorem dJ7_copyOf_59c91_0 : decode cJ7_copyOf_59c91 0 = .ok (.iload_n 1, 1) := by decide +kernel
theorem dJ7_copyOf_59c91_1 : decode cJ7_copyOf_59c91 1 = .ok (.aload_n 0, 1) := by decide +kernel
theorem dJ7_copyOf_59c91_2 : decode cJ7_copyOf_59c91 2 = .ok (.arraylength, 1) := by decide +kernel
theorem dJ7_copyOf_59c91_3 : decode cJ7_copyOf_59c91 3 = .ok (.if_icmp .ne 11, 3) := by decide +kernel
theorem dJ7_copyOf_59c91_6 : decode cJ7_copyOf_59c91 6 = .ok (.aload_n 0, 1) := by decide +kernel
theorem dJ7_copyOf_59c91_7 : decode cJ7_copyOf_59c91 7 = .ok (.invokevirtual 316, 3) := by decide +kernel
theorem dJ7_copyOf_59c91_10 : decode cJ7_copyOf_59c91 10 = .ok (.checkcast 317, 3) := by decide +kernel
theorem dJ7_copyOf_59c91_13 : decode cJ7_copyOf_59c91 13 = .ok (.areturn, 1) := by decide +kernel
theorem dJ7_copyOf_59c91_14 : decode cJ7_copyOf_59c91 14 = .ok (.iload_n 1, 1) := by decide +kernel
theorem dJ7_copyOf_59c91_15 : decode cJ7_copyOf_59c91 15 = .ok (.newarray .int, 2) := by decide +kernel
theorem dJ7_copyOf_59c91_17 : decode cJ7_copyOf_59c91 17 = .ok (.astore_n 2, 1) := by decide +kernel
theorem dJ7_copyOf_59c91_18 : decode cJ7_copyOf_59c91 18 = .ok (.aload_n 0, 1) := by decide +kernel
theorem dJ7_copyOf_59c91_19 : decode cJ7_copyOf_59c91 19 = .ok (.iconst 0, 1) := by decide +kernel
theorem dJ7_copyOf_59c91_20 : decode cJ7_copyOf_59c91 20 = .ok (.aload_n 2, 1) := by decide +kernel
theorem dJ7_copyOf_59c91_21 : decode cJ7_copyOf_59c91 21 = .ok (.iconst 0, 1) := by decide +kernel
theorem dJ7_copyOf_59c91_22 : decode cJ7_copyOf_59c91 22 = .ok (.aload_n 0, 1) := by decide +kernel
theorem dJ7_copyOf_59c91_23 : decode cJ7_copyOf_59c91 23 = .ok (.arraylength, 1) := by decide +kernel
theorem dJ7_copyOf_59c91_24 : decode cJ7_copyOf_59c91 24 = .ok (.iload_n 1, 1) := by decide +kernel
theorem dJ7_copyOf_59c91_25 : decode cJ7_copyOf_59c91 25 = .ok (.invokestatic 304, 3) := by decide +kernel
theorem dJ7_copyOf_59c91_28 : decode cJ7_copyOf_59c91 28 = .ok (.invokestatic 150, 3) := by decide +kernel
theorem dJ7_copyOf_59c91_31 : decode cJ7_copyOf_59c91 31 = .ok (.aload_n 2, 1) := by decide +kernel
theorem dJ7_copyOf_59c91_32 : decode cJ7_copyOf_59c91 32 = .ok (.areturn, 1) := by decide +kernel

set_option maxHeartbeats 4000000 in
set_option maxRecDepth 100000 in
theorem cN_copyOf {l : Launch} {D : va_G} {tc : Nat → ClassId} {ro : Ro} {fa : Fa} {fe : Fe} {μ : Mm} {k0 kN : Ky} {a0 n0 : Nat} (ha0 : fa k0 = some a0) (he0 : ∀ r, fe k0 r = .inl (tc 0, n0, .inl r)) (hkN : fa kN = none) {v : Int32} (hv : ¬ v < 0) (hne : ¬ v = nI n0) (hn0 : n0 < 2 ^ 31) (hb : v.toNatClampNeg ≤ 134217728) (sz : Nat) :
    Met l yJ7_copyOf_59c91 (wy yJ7_copyOf_59c91 cJ7_copyOf_59c91 3 (some (.array .int))) (rma 1 60 1 v.toNatClampNeg) (va_Pc [.ref a0, .int v] (Ctp D tc ro fa fe μ sz))
      (fun _ st oc t => ∃ q, oc = .returned (some (.ref q)) ∧ (wd D (fax fa kN q) (fex fe kN (fun r => .inl (tc 0, v.toNatClampNeg, .inl r))) (mro μ kN (cpz (μ k0) (if v < nI n0 then v else nI n0).toNatClampNeg)) t.heap ∧ (∀ k a, fax fa kN q k = some a → AF fa sz a) ∧ inj (fax fa kN q)) ∧ va_F (AF fa sz) st t) 1 v.toNatClampNeg (AF fa sz) := by
  refine Met.ofW (cc := cJ7_copyOf_59c91) (maxL := 3) (ret := some (.array .int)) (by decide) rfl ?_
  intro p e s m args below meth c s₁ B hml hv0
  obtain ⟨rfl, hsz, hw, hK, hi, hro⟩ := hv0
  subst hsz
  have hts := atoms_spec (ws := wy yJ7_copyOf_59c91 cJ7_copyOf_59c91 3 (some (.array .int))) B.pre
  have hl := lv_entry ([.ref a0, .int v]) (n := 3) (Nat.le_of_ble_eq_true rfl)
  rw [lg_entry_eq]
  generalize (lg_sl ([.ref a0, .int v]) ++ List.replicate (3 - (lg_sl ([.ref a0, .int v])).length) Slot.unset).toArray = ls at hl ⊢
  have hl : lv_has ls 3 [(0, .ref a0), (1, .int v)] := hl
  have C : Cx p s m [Value.ref a0, .int v].toArray c (yJ7_copyOf_59c91).cls cJ7_copyOf_59c91 3 D tc ro (AF fa s.heap.size) := ⟨⟨B.exec, B.bytes, hml, findClass_of_methodNamed B.named, fun w h => hts w (List.mem_cons_of_mem _ h)⟩, hK, hro⟩
  have hW : Wd D fa fe (AF fa s.heap.size) s.heap μ s.heap [] := ⟨hw, va_S.rf, fun k a h => Or.inl ⟨k, h⟩, fun q h => Or.inr h, hi⟩
  have hx := C.1.1
  have hb' := C.1.2.1
  have hn31 : v.toInt = (v.toNatClampNeg : Int) := by
    have h0 : (0 : Int) ≤ v.toInt := by have := Int32.not_lt.mp hv; simpa using Int32.le_iff_toInt_le.mp this
    show v.toInt = ((v.toInt.toNat : Nat) : Int)
    omega
  refine lv_iload_n hx hb' dJ7_copyOf_59c91_0 rfl (lv_at hl 1 rfl) ?_
  refine lv_aload_n hx hb' dJ7_copyOf_59c91_1 rfl (lv_at hl 0 rfl) ?_
  refine r_alen (k := k0) (t := 0) (v := nI n0) C hW ha0 (he0 _) rfl rfl dJ7_copyOf_59c91_2 ?_
  refine lv_icmp_ne (tgt := 14) hx hb' dJ7_copyOf_59c91_3 (by decide) (fun c1 => ?_) (fun c1 => absurd c1 hne)
  refine lv_iload_n hx hb' dJ7_copyOf_59c91_14 rfl (lv_at hl 1 rfl) ?_
  refine r_newi (kN := kN) (N := v.toNatClampNeg) C hW hkN kw_197 hv rfl hb (by show 0 + 1 ≤ 1; omega) (by show 0 + v.toNatClampNeg ≤ v.toNatClampNeg; omega) dJ7_copyOf_59c91_15 (fun q H hW => ?_)
  refine lv_astore_n (lv' := [(2, .ref q), (0, .ref a0), (1, .int v)]) hx hb' dJ7_copyOf_59c91_17 rfl hl (by decide) rfl (fun ls hl => ?_)
  refine lv_aload_n hx hb' dJ7_copyOf_59c91_18 rfl (lv_at hl 1 rfl) ?_
  refine lv_iconst (v := 0) hx hb' dJ7_copyOf_59c91_19 (by decide) ?_
  refine lv_aload_n hx hb' dJ7_copyOf_59c91_20 rfl (lv_at hl 0 rfl) ?_
  refine lv_iconst (v := 0) hx hb' dJ7_copyOf_59c91_21 (by decide) ?_
  refine lv_aload_n hx hb' dJ7_copyOf_59c91_22 rfl (lv_at hl 1 rfl) ?_
  have hkne : k0 ≠ kN := fun e => by rw [e, hkN] at ha0; cases ha0
  have hfx0 : fax fa kN q k0 = some a0 := by rw [fax_ne hkne]; exact ha0
  have hex0 : ∀ r, fex fe kN (fun r => .inl (tc 0, v.toNatClampNeg, .inl r)) k0 r = .inl (tc 0, n0, .inl r) := fun r => by rw [fex_ne hkne]; exact he0 r
  have hexN : ∀ r, fex fe kN (fun r => .inl (tc 0, v.toNatClampNeg, .inl r)) kN r = .inl (tc 0, v.toNatClampNeg, .inl r) := fun r => fex_self _ _ _ _
  refine r_alen (k := k0) (t := 0) (v := nI n0) C hW hfx0 (hex0 _) rfl rfl dJ7_copyOf_59c91_23 ?_
  refine lv_iload_n hx hb' dJ7_copyOf_59c91_24 rfl (lv_at hl 2 rfl) ?_
  refine r_mmin C hl kw_576 kw_560 kw_140 kw_561 (Nat.le_of_ble_eq_true rfl) (Nat.le_of_ble_eq_true rfl) ⟨by show 0 + 1 ≤ 1; omega, by show 0 + v.toNatClampNeg ≤ v.toNatClampNeg; omega⟩ dJ7_copyOf_59c91_25 ?_
  have hcc : ¬ (0 : Int32) < 0 ∧ ¬ (0 : Int32) < 0 ∧ ¬ (if v < nI n0 then v else nI n0) < 0 ∧ (0 : Int32).toNatClampNeg + (if v < nI n0 then v else nI n0).toNatClampNeg ≤ n0 ∧ (0 : Int32).toNatClampNeg + (if v < nI n0 then v else nI n0).toNatClampNeg ≤ v.toNatClampNeg := by
    have e0 : (0 : Int32).toNatClampNeg = 0 := by decide
    rw [e0]
    by_cases hlt : v < nI n0
    · rw [if_pos hlt]
      have h2 := Int32.lt_iff_toInt_lt.mp hlt
      rw [nI_toInt hn0, hn31] at h2
      exact ⟨by decide, by decide, hv, by omega, by omega⟩
    · rw [if_neg hlt, nI_clamp hn0]
      have h2 := Int32.not_lt.mp hlt
      have h3 := Int32.le_iff_toInt_le.mp h2
      rw [nI_toInt hn0, hn31] at h3
      exact ⟨by decide, by decide, nI_pos hn0, by omega, by omega⟩
  refine r_copy (k := k0) (k2 := kN) (n1 := n0) (n2 := v.toNatClampNeg) C hW hl kw_577 kw_579 kw_578 kw_150 (Nat.le_of_ble_eq_true rfl) (Nat.le_of_ble_eq_true rfl) hfx0 hex0 (fax_self _ _ _) hexN hcc dJ7_copyOf_59c91_28 (fun H locs hW => ?_)
  refine lv_aload_n hx hb' dJ7_copyOf_59c91_31 rfl (lv_at hl 0 rfl) ?_
  have hμ : mrow (mro μ kN (fun _ => 0)) kN (va_cpy (mro μ kN (fun _ => 0) k0) (mro μ kN (fun _ => 0) kN) (0 : Int32).toNatClampNeg (0 : Int32).toNatClampNeg (if v < nI n0 then v else nI n0).toNatClampNeg) = mro μ kN (cpz (μ k0) (if v < nI n0 then v else nI n0).toNatClampNeg) := by
    funext z
    by_cases hz : z = kN
    · subst hz
      rw [mrow_self, mro_self, mro_self, mro_ne hkne]
      rfl
    · rw [mrow_ne hz, mro_ne hz, mro_ne hz]
  rw [hμ] at hW
  refine W.widen (k := 1) (n := v.toNatClampNeg) (by show 0 + 1 ≤ 1; omega) (by show 0 + v.toNatClampNeg ≤ v.toNatClampNeg; omega) ?_
  exact W.aret hx hb' B.returns (Or.inr ⟨_, rfl⟩) (Or.inr ⟨_, rfl⟩) (fun t ht _ => ⟨q, rfl, ⟨by rw [ht]; exact hW.1, hW.2.2.1, hW.2.2.2.2⟩, hW.2.1.F ht⟩) hW.2.1.2.2 dJ7_copyOf_59c91_32 B.notSynchronized
theorem Wd.afterG {D : va_G} {fa fa' : Fa} {fe fe' : Fe} {A : Nat → Prop} {H0 H H1 : Heap} {μ μ' : Mm} {locs L : List Loc} (hW : Wd D fa fe A H0 μ H locs) (h1 : wd D fa' fe' μ' H1) (h2 : ∀ k a, fa' k = some a → AF fa H.size a) (h3 : inj fa') (hz : H.size ≤ H1.size) (hk : ∀ q : Nat, q < H.size → ¬ AF fa H.size q → H1[q]? = H[q]?) (hL : ∀ q ∈ L, AF fa H.size q.base) : Wd D fa' fe' A H0 μ' H1 (locs ++ L) := by
  have hAA := hW.sub
  refine ⟨h1, ⟨Nat.le_trans hW.2.1.1 hz, fun q h2 h3 => ?_, fun q hq => ?_⟩, fun k a h => hAA a (h2 k a h), hW.2.2.2.1, h3⟩
  · rw [hk q (Nat.lt_of_lt_of_le h2 hW.2.1.1) (fun z => h3 (hAA q z))]
    exact hW.2.1.2.1 q h2 h3
  · rcases List.mem_append.mp hq with h | h
    · exact hW.2.1.2.2 q h
    · exact hAA _ (hL q h)
set_option maxHeartbeats 4000000 in
theorem r_copyOf {p : Program} {l : Launch} {e : Env} {R : Room} {s : State} {m : MethodId} {args : Array Value} {below : List Frame} {meth : Method} {c : Code} {H : Heap} {locs : List Loc} {cells slots : Nat} {Q : State → Prop} {cc : ByteArray} {pc nL : Nat} {ls : Array Slot} {rest st : List Value} {D : va_G} {tc : Nat → ClassId} {ro : Ro} {fa : Fa} {fe : Fe} {A : Nat → Prop} {μ : Mm} {own : String} {index : Nat} {lv : List (Nat × Value)} {k0 kN : Ky} {a0 n0 : Nat} {v : Int32}
    (C : Cx p s m args c own cc nL D tc ro A) (hW : Wd D fa fe A s.heap μ H locs) (hl : lv_has ls nL lv) (K : LkS own index yJ7_copyOf_59c91 cJ7_copyOf_59c91 3 (some (.array .int)) 2)
    (ha0 : fa k0 = some a0) (he0 : ∀ r, fe k0 r = .inl (tc 0, n0, .inl r)) (hkN : fa kN = none) (hv : ¬ v < 0) (hne : ¬ v = nI n0) (hn0 : n0 < 2 ^ 31) (hb : v.toNatClampNeg ≤ 134217728)
    (hR : 1 + 1 ≤ R.frames ∧ 8 + (3 + 11) + 60 ≤ R.locals) (hst : st = .int v :: .ref a0 :: rest) (hw : (rest.map fun v => v.category).sum ≤ 8) (hdg : decode cc pc = .ok (.invokestatic index, 3)) (hf : cells + 1 ≤ R.cells ∧ slots + v.toNatClampNeg ≤ R.slots)
    (kk : ∀ (q : Nat) (H1 : Heap) (locs1 : List Loc), Wd D (fax fa kN q) (fex fe kN (fun r => .inl (tc 0, v.toNatClampNeg, .inl r))) A s.heap (mro μ kN (cpz (μ k0) (if v < nI n0 then v else nI n0).toNatClampNeg)) H1 locs1 → W p l e R s m args below meth c H1 locs1 (cells + 1) (slots + v.toNatClampNeg) Q (F0 m (pc + 3) ls (.ref q :: rest))) : W p l e R s m args below meth c H locs cells slots Q (F0 m pc ls st) := by
  have C' := C
  obtain ⟨⟨hx, hb1, hml, hown, hts⟩, hK, hro⟩ := C
  obtain ⟨⟨k1, k2, k4, k5⟩, k6⟩ := K
  subst hst
  refine r_run (va_runS C'.1 (cN_copyOf ha0 he0 hkN hv hne hn0 hb H.size) ⟨callB_of 2 hts (gw_wy k5) rfl rfl rfl (hts _ k4) (hts _ k1) k6 hR, hts _ k2⟩ ⟨Ctp.blind, fun U hU hWm => ⟨rfl, by rw [hU], by rw [hU]; exact hW.1, va_K.moved hWm.alike hK, hW.2.2.2.2, hro.kept hW.2.1 hW.sub hU hWm⟩⟩ rfl rfl hl.1 rfl (lv_room hw) hdg hf) ?_
  intro v0 st₀ t H1 L e0 e1 hL hq2
  obtain ⟨q, z1, ⟨z2, z4, z5⟩, z3⟩ := hq2
  cases z1
  subst e1
  subst e0
  exact kk q _ _ (hW.afterG z2 z4 z5 z3.1 z3.2 hL)
theorem lk_X1_copyOf : LkS RX1 27 yJ7_copyOf_59c91 cJ7_copyOf_59c91 3 (some (.array .int)) 2 := ⟨⟨kw_566, kw_567, kw_149, kw_568⟩, by decide, by decide, by decide +kernel⟩
theorem faB_aa (oa : Ky → Nat) (aa aa' : Nat → Nat) (sh : Sh) : ∀ (a b : Nat), a ≠ 12 → faB oa aa sh (a, b) = faB oa aa' sh (a, b)
  | 0, _, _ => rfl
  | 1, _, _ => rfl
  | 2, _, _ => rfl
  | 3, _, _ => rfl
  | 4, _, _ => rfl
  | 5, _, _ => rfl
  | 6, _, _ => rfl
  | 7, _, _ => rfl
  | 8, _, _ => rfl
  | 9, _, _ => rfl
  | 10, _, _ => rfl
  | 11, _, _ => rfl
  | 12, _, h => absurd rfl h
  | 13, _, _ => rfl
  | 14, _, _ => rfl
  | 15, _, _ => rfl
  | n + 16, _, _ => rfl
theorem feB_aa (tc : Nat → ClassId) (oa : Ky → Nat) (aa aa' : Nat → Nat) (sh : Sh) (ln ln' : Nat → Nat) (r : Nat → Int32) : ∀ (a b : Nat), a ≠ 11 → a ≠ 12 → feB tc oa aa sh ln (a, b) r = feB tc oa aa' sh ln' (a, b) r
  | 0, _, _, _ => rfl
  | 1, _, _, _ => rfl
  | 2, _, _, _ => rfl
  | 3, _, _, _ => rfl
  | 4, _, _, _ => rfl
  | 5, _, _, _ => rfl
  | 6, _, _, _ => rfl
  | 7, _, _, _ => rfl
  | 8, _, _, _ => rfl
  | 9, _, _, _ => rfl
  | 10, _, _, _ => rfl
  | 11, _, h, _ => absurd rfl h
  | 12, _, _, h => absurd rfl h
  | 13, _, _, _ => rfl
  | 14, _, _, _ => rfl
  | 15, _, _, _ => rfl
  | n + 16, _, _, _ => rfl
theorem faB_upa (oa : Ky → Nat) (aa : Nat → Nat) (sh : Sh) (c q : Nat) (k : Ky) (h : k ≠ (12, c)) : faB oa (fun z => if z = c then q else aa z) sh k = faB oa aa sh k := by
  obtain ⟨a, b⟩ := k
  by_cases h12 : a = 12
  · subst h12
    have hb : b ≠ c := fun e => h (by rw [e])
    show (if cex sh b = true then some (if b = c then q else aa b) else none) = (if cex sh b = true then some (aa b) else none)
    rw [if_neg hb]
  · exact faB_aa _ _ _ _ _ _ h12
theorem feB_upa (tc : Nat → ClassId) (oa : Ky → Nat) (aa : Nat → Nat) (sh : Sh) (ln : Nat → Nat) (c q n : Nat) (k : Ky) (r : Nat → Int32) (h : k ≠ (12, c)) (h2 : k ≠ (11, c)) : feB tc oa (fun z => if z = c then q else aa z) sh (fun z => if z = c then n else ln z) k r = feB tc oa aa sh ln k r := by
  obtain ⟨a, b⟩ := k
  by_cases h12 : a = 12
  · subst h12
    have hb : b ≠ c := fun e => h (by rw [e])
    show (Sum.inl (tc 0, (if b = c then n else ln b), .inl r) : va_E) = Sum.inl (tc 0, ln b, .inl r)
    rw [if_neg hb]
  · by_cases h11 : a = 11
    · subst h11
      have hb : b ≠ c := fun e => h2 (by rw [e])
      show (Sum.inr (1, [.ref (if b = c then q else aa b)]) : va_E) = Sum.inr (1, [.ref (aa b)])
      rw [if_neg hb]
    · exact feB_aa _ _ _ _ _ _ _ _ _ _ h11 h12
-- a row of whole numbers gets longer: behind its old end all are 0
theorem ne99 {oa : Ky → Nat} {aa : Nat → Nat} {sh : Sh} {k : Ky} {a : Nat} (h : faB oa aa sh k = some a) : k ≠ (99, 0) := by
  intro e
  rw [e, show faB oa aa sh (99, 0) = none from rfl] at h
  cases h
theorem faB_12s {oa : Ky → Nat} {aa : Nat → Nat} {sh : Sh} {c q a : Nat} (hc0 : cex sh c = true) (h : faB oa (fun z => if z = c then q else aa z) sh (12, c) = some a) : a = q := by
  rw [show faB oa (fun z => if z = c then q else aa z) sh (12, c) = some (if c = c then q else aa c) from faB_12 hc0, if_pos rfl] at h
  exact (Option.some.inj h).symm
theorem inj_upa {oa : Ky → Nat} {aa : Nat → Nat} {sh : Sh} {c q : Nat} (hc0 : cex sh c = true) (h9 : inj (fax (faB oa aa sh) (99, 0) q)) : inj (faB oa (fun z => if z = c then q else aa z) sh) := by
  have key : ∀ k a, faB oa (fun z => if z = c then q else aa z) sh k = some a → fax (faB oa aa sh) (99, 0) q (if k = (12, c) then (99, 0) else k) = some a := by
    intro k a hk2
    by_cases hk12 : k = (12, c)
    · subst hk12
      rw [if_pos rfl, fax_self, faB_12s hc0 hk2]
    · rw [if_neg hk12, fax_ne (ne99 hk2), ← faB_upa oa aa sh c q k hk12]
      exact hk2
  intro i j a hi2 hj2
  have h1 := h9 _ _ _ (key i a hi2) (key j a hj2)
  have n1 := ne99 hi2
  have n2 := ne99 hj2
  by_cases p1 : i = (12, c)
  · by_cases p2 : j = (12, c)
    · rw [p1, p2]
    · rw [if_pos p1, if_neg p2] at h1
      exact absurd h1.symm n2
  · by_cases p2 : j = (12, c)
    · rw [if_neg p1, if_pos p2] at h1
      exact absurd h1 n1
    · rw [if_neg p1, if_neg p2] at h1
      exact h1
theorem re_upa {tc : Nat → ClassId} {oa : Ky → Nat} {aa : Nat → Nat} {sh : Sh} {ln : Nat → Nat} {μ : Mm} {c q n : Nat} (hc0 : cex sh c = true) : ∀ k a, faB oa (fun z => if z = c then q else aa z) sh k = some a → ∃ k1, fax (faB oa aa sh) (99, 0) q k1 = some a ∧ (if k1 = ((11, c) : Ky) then Sum.inr (1, [.ref q]) else fex (feB tc oa aa sh ln) (99, 0) (fun r => .inl (tc 0, n, .inl r)) k1 (mro μ (99, 0) (cpz (μ (12, c)) (ln c)) k1)) = feB tc oa (fun z => if z = c then q else aa z) sh (upn ln c n) k (gro μ c (ln c) k) := by
  intro k a hk2
  by_cases hk12 : k = (12, c)
  · subst hk12
    refine ⟨(99, 0), ?_, ?_⟩
    · rw [fax_self, faB_12s hc0 hk2]
    · rw [if_neg (fun h => absurd (congrArg Prod.fst h : (99 : Nat) = 11) (by decide)), fex_self, mro_self]
      show _ = (Sum.inl (tc 0, (if c = c then n else ln c), .inl (mro μ (12, c) (cpz (μ (12, c)) (ln c)) (12, c))) : va_E)
      rw [if_pos rfl, mro_self]
  · have h99 := ne99 hk2
    refine ⟨k, by rw [fax_ne h99, ← faB_upa oa aa sh c q k hk12]; exact hk2, ?_⟩
    rw [fex_ne h99, mro_ne h99, gro, mro_ne hk12]
    by_cases hk11 : k = (11, c)
    · subst hk11
      rw [if_pos rfl]
      show _ = (Sum.inr (1, [.ref (if c = c then q else aa c)]) : va_E)
      rw [if_pos rfl]
    · rw [if_neg hk11]
      exact (feB_upa tc oa aa sh ln c q n k (μ k) hk12 hk11).symm
set_option maxHeartbeats 4000000 in
set_option maxRecDepth 100000 in
theorem cA_X1_grow {l : Launch} {D : va_G} {tc : Nat → ClassId} {ro : Ro} {oa : Ky → Nat} {sh : Sh} {ln : Nat → Nat} {cl0 : Nat} {μ : Mm} {v1 : Int32} {rv : Int32} {ln9 : Nat → Nat} {m9 : Mm} {kc ks : Nat} (hwf : WfS sh) (hc0 : cex sh cl0 = true) (hf : f_X1_growA sh ln cl0 μ v1 = some ((rv, ln9, m9), kc, ks)) :
    CtA l D tc ro oa yX1_grow cX1_grow 2 none (rma 2 82 kc ks) [.ref (oa (11, cl0)), .int v1] sh ln μ none ln9 m9 := by
  refine CtA.of (by decide) (Nat.le_of_ble_eq_true rfl) (fun aa p e s m args below meth c A C hr hk hW ls hl => ?_)
  have hx := C.1.1
  have hb := C.1.2.1
  have hl : lv_has ls 2 [(0, .ref (oa (11, cl0))), (1, .int v1)] := hl
  unfold f_X1_growA at hf
  obtain ⟨hn31, hf⟩ := ce_of hf
  refine lv_iload_n hx hb dX1_grow_0 rfl (lv_at hl 1 rfl) ?_
  refine lv_aload_n hx hb dX1_grow_1 rfl (lv_at hl 0 rfl) ?_
  refine gf_X1_13 C hW hc0 dX1_grow_2 ?_
  refine r_alen (k := (12, cl0)) (t := 0) (v := nI (ln cl0)) C hW (faB_12 hc0) rfl rfl rfl dX1_grow_5 ?_
  refine lv_icmp_le (tgt := 21) hx hb dX1_grow_6 (by decide) (fun c1 => ?_) (fun c1 => ?_)
  · have hf := (if_pos c1).symm.trans hf
    obtain ⟨e0, rfl, rfl⟩ := retA hf
    cases e0
    exact r_vretA C hr hk hW (Nat.le_refl _) (Nat.le_refl _) dX1_grow_21
  · have hf := (if_neg c1).symm.trans hf
    obtain ⟨hb2, hf⟩ := ce_of hf
    cases hf
    have c2 := Int32.not_le.mp c1
    have h3 := Int32.lt_iff_toInt_lt.mp c2
    rw [nI_toInt hn31] at h3
    have hv : ¬ v1 < 0 := by
      intro h
      have := Int32.lt_iff_toInt_lt.mp h
      have e0 : (0 : Int32).toInt = 0 := by decide
      rw [e0] at this
      omega
    have hne : ¬ v1 = nI (ln cl0) := fun h => by rw [h, nI_toInt hn31] at h3; omega
    have hmn : ¬ v1 < nI (ln cl0) := fun h => by
      have := Int32.lt_iff_toInt_lt.mp h
      rw [nI_toInt hn31] at this
      omega
    refine lv_aload_n hx hb dX1_grow_9 rfl (lv_at hl 0 rfl) ?_
    refine lv_aload_n hx hb dX1_grow_10 rfl (lv_at hl 0 rfl) ?_
    refine gf_X1_13 C hW hc0 dX1_grow_11 ?_
    refine lv_iload_n hx hb dX1_grow_14 rfl (lv_at hl 1 rfl) ?_
    have hkN : faB oa aa sh (99, 0) = none := rfl
    refine r_copyOf (k0 := (12, cl0)) (kN := (99, 0)) C hW hl lk_X1_copyOf (faB_12 hc0) (fun _ => rfl) hkN hv hne hn31 hb2 ⟨Nat.le_of_ble_eq_true rfl, Nat.le_of_ble_eq_true rfl⟩ rfl (Nat.le_of_ble_eq_true rfl) dX1_grow_15 ⟨by show 0 + 1 ≤ 1; omega, by show 0 + v1.toNatClampNeg ≤ v1.toNatClampNeg; omega⟩ (fun q H locs hW => ?_)
    rw [if_neg hmn, nI_clamp hn31] at hW
    have hne11 : ((11, cl0) : Ky) ≠ (99, 0) := fun h => by cases h
    refine r_putG (k := (11, cl0)) (fs := [.ref (aa cl0)]) (T := TX1) (N := 1) (f := 0) (v := .ref q) (ty := .array .int) (fe' := fun k r => if k = (11, cl0) then .inr (1, [.ref q]) else fex (feB tc oa aa sh ln) (99, 0) (fun r => .inl (tc 0, v1.toNatClampNeg, .inl r)) k r) (μ' := mro μ (99, 0) (cpz (μ (12, cl0)) (ln cl0))) C hW rfl (Nat.le_of_ble_eq_true rfl) kin_X1 tyX1_ok nmX1 kw_193 (Or.inl rfl) rfl (by decide +kernel) (by rw [fax_ne hne11]; exact faB_11 hc0) (by rw [fex_ne hne11]; rfl) (Nat.le_of_ble_eq_true rfl) rfl rfl (if_pos rfl) (fun j hj => if_neg hj) dX1_grow_18 (fun H locs hW => ?_)
    have hcl : ∀ k : Ky, k ≠ (99, 0) → fax (faB oa aa sh) (99, 0) q k = faB oa aa sh k := fun k h => fax_ne h
    have hinj2 := inj_upa hc0 hW.2.2.2.2
    have hre := re_upa (tc := tc) (ln := ln) (μ := μ) (q := q) (n := v1.toNatClampNeg) (oa := oa) (aa := aa) hc0
    have hW2 : Wd D (faB oa (fun c => if c = cl0 then q else aa c) sh) (feB tc oa (fun c => if c = cl0 then q else aa c) sh (upn ln cl0 v1.toNatClampNeg)) A s.heap (gro μ cl0 (ln cl0)) H locs :=
      ⟨hW.1.reindex hre, hW.2.1, fun k a h => by obtain ⟨k1, h1, -⟩ := hre k a h; exact hW.2.2.1 k1 a h1, hW.2.2.2.1, hinj2⟩
    exact r_vretA C hr hk hW2 (by show 0 + 1 ≤ 1; omega) (by show 0 + v1.toNatClampNeg ≤ v1.toNatClampNeg; omega) dX1_grow_21
