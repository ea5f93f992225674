-- the law's loop
theorem i6 {L i : Nat} (hL : L ≤ 3072) (hi : i ≤ 3078) (h : ¬ Int32.ofNat L - 6 < nI i) : i + 6 ≤ L := by
  rcases Nat.lt_or_ge L 6 with q | q
  · exfalso
    apply h
    have h1 : Int32.ofNat L - 6 < 0 := by
      have : L = 0 ∨ L = 1 ∨ L = 2 ∨ L = 3 ∨ L = 4 ∨ L = 5 := by omega
      rcases this with rfl | rfl | rfl | rfl | rfl | rfl <;> decide +kernel
    have h2 : (0 : Int32) ≤ nI i := nI_le (a := 0) (by omega) (by omega)
    exact Int32.lt_of_lt_of_le h1 h2
  · have e : Int32.ofNat L - 6 = nI (L - 6) := by
      have e2 : Int32.ofNat L = nI (L - 6) + nI 6 := by rw [nI_add, show L - 6 + 6 = L by omega]; rfl
      rw [e2, show (6 : Int32) = nI 6 from rfl, Int32.add_sub_cancel]
    rw [e, nI_ltI (by omega) (by omega)] at h
    omega
theorem and63 (y : Int32) : ∃ v, v < 64 ∧ y &&& 63 = nI v := by
  refine ⟨(y &&& 63).toBitVec.toNat, ?_, ?_⟩
  · have : (y &&& 63).toBitVec.toNat = y.toBitVec.toNat &&& 63 := by
      rw [Int32.toBitVec_and, BitVec.toNat_and]
      rfl
    rw [this]
    have := Nat.and_le_right (n := y.toBitVec.toNat) (m := 63)
    omega
  · apply Int32.toBitVec_inj.mp
    show (y &&& 63).toBitVec = BitVec.ofNat 32 (y &&& 63).toBitVec.toNat
    rw [BitVec.ofNat_toNat, BitVec.setWidth_eq]
set_option maxHeartbeats 4000000 in
set_option maxRecDepth 100000 in
/-- the switch: one call -/
theorem law_call {p : Program} {l : Launch} {e : Env} {s : State} {m : MethodId} {below : List Frame} {meth : Method} {c : Code} {D : va_G} {tc : Nat → ClassId} {ro : Ro} {A : Nat → Prop} {b o L : Nat} {xs : Nat → Int32} {ad : Nat → Nat} {H : Heap} {locs : List Loc} {cells slots : Nat} {Q : State → Prop} {ls : Array Slot} {oa : Ky → Nat} {aa : Nat → Nat} {sh : Sh} {ln : Nat → Nat} {μk μq : Mm} {i : Nat} {f : Nat → Int64} {x : Int32} (K : LCw p s m c D tc ro A b L xs) (hs : l.stackTraces = false) (hi : i + 6 ≤ L) (h : L3 D tc s A oa aa sh ln μk ad μq o f H locs) (hRel : REL sh ln μq μk) (hS : S11 sh) (hNF : NF sh μk) (h4 : sh 4 2 < 600) (hb1 : cells + POc sh ln + 3 ≤ 601024) (hb2 : slots + POs sh ln + 520 ≤ 7293034) (hl : lv_has ls 7 (lb b (oa (0, 0)) (ad 0) o i)) (kk : Kt p l e s m below meth c Q D tc A b o i ad oa sh ln cells slots) (hx63 : ∃ v, v < 64 ∧ x = nI v) : W p l e room_1 s m #[Value.ref b] below meth c H locs cells slots Q (F0 m 40 ls [.int x]) := by
  have hx := K.1.1.1
  have hb := K.1.1.2.1
  have hRel0 := hRel
  obtain ⟨V, n, N, w0, r0, Λo, j, d, t, c0, T, z, hR⟩ := hRel
  obtain ⟨v, hv, rfl⟩ := hx63
  by_cases hv2 : v < 49
  · match v, hv2 with
    | 0, _ => exact lv_tableIn (off := 212) (tgt := 252) hx hb dL_law__40 (by decide +kernel) (by decide +kernel) rfl (by decide) (br_0 K hs hi h hR hS hNF h4 hb1 hb2 hl kk)
    | 1, _ => exact lv_tableIn (off := 285) (tgt := 325) hx hb dL_law__40 (by decide +kernel) (by decide +kernel) rfl (by decide) (br_1 K hs hi h hR hS hNF h4 hb1 hb2 hl kk)
    | 2, _ => exact lv_tableIn (off := 310) (tgt := 350) hx hb dL_law__40 (by decide +kernel) (by decide +kernel) rfl (by decide) (br_2 K hs hi h hR hS hNF h4 hb1 hb2 hl kk)
    | 3, _ => exact lv_tableIn (off := 354) (tgt := 394) hx hb dL_law__40 (by decide +kernel) (by decide +kernel) rfl (by decide) (br_3 K hs hi h hR hS hNF h4 hb1 hb2 hl kk)
    | 4, _ => exact lv_tableIn (off := 398) (tgt := 438) hx hb dL_law__40 (by decide +kernel) (by decide +kernel) rfl (by decide) (br_4 K hs hi h hR hS hNF h4 hb1 hb2 hl kk)
    | 5, _ => exact lv_tableIn (off := 411) (tgt := 451) hx hb dL_law__40 (by decide +kernel) (by decide +kernel) rfl (by decide) (br_5 K hs hi h hR hS hNF h4 hb1 hb2 hl kk)
    | 6, _ => exact lv_tableIn (off := 479) (tgt := 519) hx hb dL_law__40 (by decide +kernel) (by decide +kernel) rfl (by decide) (br_6 K hs hi h hR hS hNF h4 hb1 hb2 hl kk)
    | 7, _ => exact lv_tableIn (off := 542) (tgt := 582) hx hb dL_law__40 (by decide +kernel) (by decide +kernel) rfl (by decide) (br_7 K hs hi h hR hS hNF h4 hb1 hb2 hl kk)
    | 8, _ => exact lv_tableIn (off := 629) (tgt := 669) hx hb dL_law__40 (by decide +kernel) (by decide +kernel) rfl (by decide) (br_8 K hs hi h hR hS hNF h4 hb1 hb2 hl kk)
    | 9, _ => exact lv_tableIn (off := 704) (tgt := 744) hx hb dL_law__40 (by decide +kernel) (by decide +kernel) rfl (by decide) (br_9 K hs hi h hR hS hNF h4 hb1 hb2 hl kk)
    | 10, _ => exact lv_tableIn (off := 784) (tgt := 824) hx hb dL_law__40 (by decide +kernel) (by decide +kernel) rfl (by decide) (br_10 K hs hi h hR hS hNF h4 hb1 hb2 hl kk)
    | 11, _ => exact lv_tableIn (off := 880) (tgt := 920) hx hb dL_law__40 (by decide +kernel) (by decide +kernel) rfl (by decide) (br_11 K hs hi h hR hS hNF h4 hb1 hb2 hl kk)
    | 12, _ => exact lv_tableIn (off := 948) (tgt := 988) hx hb dL_law__40 (by decide +kernel) (by decide +kernel) rfl (by decide) (br_12 K hs hi h hR hS hNF h4 hb1 hb2 hl kk)
    | 13, _ => exact lv_tableIn (off := 1011) (tgt := 1051) hx hb dL_law__40 (by decide +kernel) (by decide +kernel) rfl (by decide) (br_13 K hs hi h hR hS hNF h4 hb1 hb2 hl kk)
    | 14, _ => exact lv_tableIn (off := 1024) (tgt := 1064) hx hb dL_law__40 (by decide +kernel) (by decide +kernel) rfl (by decide) (br_14 K hs hi h hR hS hNF h4 hb1 hb2 hl kk)
    | 15, _ => exact lv_tableIn (off := 1080) (tgt := 1120) hx hb dL_law__40 (by decide +kernel) (by decide +kernel) rfl (by decide) (br_15 K hs hi h hR hS hNF h4 hb1 hb2 hl kk)
    | 16, _ => exact lv_tableIn (off := 1148) (tgt := 1188) hx hb dL_law__40 (by decide +kernel) (by decide +kernel) rfl (by decide) (br_16 K hs hi h hR hS hNF h4 hb1 hb2 hl kk)
    | 17, _ => exact lv_tableIn (off := 1228) (tgt := 1268) hx hb dL_law__40 (by decide +kernel) (by decide +kernel) rfl (by decide) (br_17 K hs hi h hR hS hNF h4 hb1 hb2 hl kk)
    | 18, _ => exact lv_tableIn (off := 1284) (tgt := 1324) hx hb dL_law__40 (by decide +kernel) (by decide +kernel) rfl (by decide) (br_18 K hs hi h hR hS hNF h4 hb1 hb2 hl kk)
    | 19, _ => exact lv_tableIn (off := 1352) (tgt := 1392) hx hb dL_law__40 (by decide +kernel) (by decide +kernel) rfl (by decide) (br_19 K hs hi h hR hS hNF h4 hb1 hb2 hl kk)
    | 20, _ => exact lv_tableIn (off := 1420) (tgt := 1460) hx hb dL_law__40 (by decide +kernel) (by decide +kernel) rfl (by decide) (br_20 K hs hi h hR hS hNF h4 hb1 hb2 hl kk)
    | 21, _ => exact lv_tableIn (off := 1507) (tgt := 1547) hx hb dL_law__40 (by decide +kernel) (by decide +kernel) rfl (by decide) (br_21 K hs hi h hR hS hNF h4 hb1 hb2 hl kk)
    | 22, _ => exact lv_tableIn (off := 1563) (tgt := 1603) hx hb dL_law__40 (by decide +kernel) (by decide +kernel) rfl (by decide) (br_22 K hs hi h hR hS hNF h4 hb1 hb2 hl kk)
    | 23, _ => exact lv_tableIn (off := 1619) (tgt := 1659) hx hb dL_law__40 (by decide +kernel) (by decide +kernel) rfl (by decide) (br_23 K hs hi h hR hS hNF h4 hb1 hb2 hl kk)
    | 24, _ => exact lv_tableIn (off := 1675) (tgt := 1715) hx hb dL_law__40 (by decide +kernel) (by decide +kernel) rfl (by decide) (br_24 K hs hi h hR hS hNF h4 hb1 hb2 hl kk)
    | 25, _ => exact lv_tableIn (off := 1731) (tgt := 1771) hx hb dL_law__40 (by decide +kernel) (by decide +kernel) rfl (by decide) (br_25 K hs hi h hR hS hNF h4 hb1 hb2 hl kk)
    | 26, _ => exact lv_tableIn (off := 1787) (tgt := 1827) hx hb dL_law__40 (by decide +kernel) (by decide +kernel) rfl (by decide) (br_26 K hs hi h hR hS hNF h4 hb1 hb2 hl kk)
    | 27, _ => exact lv_tableIn (off := 1843) (tgt := 1883) hx hb dL_law__40 (by decide +kernel) (by decide +kernel) rfl (by decide) (br_27 K hs hi h hR hS hNF h4 hb1 hb2 hl kk)
    | 28, _ => exact lv_tableIn (off := 1899) (tgt := 1939) hx hb dL_law__40 (by decide +kernel) (by decide +kernel) rfl (by decide) (br_28 K hs hi h hR hS hNF h4 hb1 hb2 hl kk)
    | 29, _ => exact lv_tableIn (off := 1955) (tgt := 1995) hx hb dL_law__40 (by decide +kernel) (by decide +kernel) rfl (by decide) (br_29 K hs hi h hR hS hNF h4 hb1 hb2 hl kk)
    | 30, _ => exact lv_tableIn (off := 1968) (tgt := 2008) hx hb dL_law__40 (by decide +kernel) (by decide +kernel) rfl (by decide) (br_30 K hs hi h hR hS hNF h4 hb1 hb2 hl kk)
    | 31, _ => exact lv_tableIn (off := 2052) (tgt := 2092) hx hb dL_law__40 (by decide +kernel) (by decide +kernel) rfl (by decide) (br_31 K hs hi h hR hS hNF h4 hb1 hb2 hl kk)
    | 32, _ => exact lv_tableIn (off := 2120) (tgt := 2160) hx hb dL_law__40 (by decide +kernel) (by decide +kernel) rfl (by decide) (br_32 K hs hi h hR hS hNF h4 hb1 hb2 hl kk)
    | 33, _ => exact lv_tableIn (off := 2176) (tgt := 2216) hx hb dL_law__40 (by decide +kernel) (by decide +kernel) rfl (by decide) (br_33 K hs hi h hR hS hNF h4 hb1 hb2 hl kk)
    | 34, _ => exact lv_tableIn (off := 2260) (tgt := 2300) hx hb dL_law__40 (by decide +kernel) (by decide +kernel) rfl (by decide) (br_34 K hs hi h hR hS hNF h4 hb1 hb2 hl kk)
    | 35, _ => exact lv_tableIn (off := 2328) (tgt := 2368) hx hb dL_law__40 (by decide +kernel) (by decide +kernel) rfl (by decide) (br_35 K hs hi h hR hS hNF h4 hb1 hb2 hl kk)
    | 36, _ => exact lv_tableIn (off := 2384) (tgt := 2424) hx hb dL_law__40 (by decide +kernel) (by decide +kernel) rfl (by decide) (br_36 K hs hi h hR hS hNF h4 hb1 hb2 hl kk)
    | 37, _ => exact lv_tableIn (off := 2440) (tgt := 2480) hx hb dL_law__40 (by decide +kernel) (by decide +kernel) rfl (by decide) (br_37 K hs hi h hR hS hNF h4 hb1 hb2 hl kk)
    | 38, _ => exact lv_tableIn (off := 2496) (tgt := 2536) hx hb dL_law__40 (by decide +kernel) (by decide +kernel) rfl (by decide) (br_38 K hs hi h hR hS hNF h4 hb1 hb2 hl kk)
    | 39, _ => exact lv_tableIn (off := 2580) (tgt := 2620) hx hb dL_law__40 (by decide +kernel) (by decide +kernel) rfl (by decide) (br_39 K hs hi h hR hS hNF h4 hb1 hb2 hl kk)
    | 40, _ => exact lv_tableIn (off := 2636) (tgt := 2676) hx hb dL_law__40 (by decide +kernel) (by decide +kernel) rfl (by decide) (br_40 K hs hi h hR hS hNF h4 hb1 hb2 hl kk)
    | 41, _ => exact lv_tableIn (off := 2692) (tgt := 2732) hx hb dL_law__40 (by decide +kernel) (by decide +kernel) rfl (by decide) (br_41 K hs hi h hR hS hNF h4 hb1 hb2 hl kk)
    | 42, _ => exact lv_tableIn (off := 2705) (tgt := 2745) hx hb dL_law__40 (by decide +kernel) (by decide +kernel) rfl (by decide) (br_42 K hs hi h hR hS hNF h4 hb1 hb2 hl kk)
    | 43, _ => exact lv_tableIn (off := 2718) (tgt := 2758) hx hb dL_law__40 (by decide +kernel) (by decide +kernel) rfl (by decide) (br_43 K hs hi h hR hS hNF h4 hb1 hb2 hl kk)
    | 44, _ => exact lv_tableIn (off := 2786) (tgt := 2826) hx hb dL_law__40 (by decide +kernel) (by decide +kernel) rfl (by decide) (br_44 K hs hi h hR hS hNF h4 hb1 hb2 hl kk)
    | 45, _ => exact lv_tableIn (off := 2811) (tgt := 2851) hx hb dL_law__40 (by decide +kernel) (by decide +kernel) rfl (by decide) (br_45 K hs hi h hR hS hNF h4 hb1 hb2 hl kk)
    | 46, _ => exact lv_tableIn (off := 2824) (tgt := 2864) hx hb dL_law__40 (by decide +kernel) (by decide +kernel) rfl (by decide) (br_46 K hs hi h hR hS hNF h4 hb1 hb2 hl kk)
    | 47, _ => exact lv_tableIn (off := 2835) (tgt := 2875) hx hb dL_law__40 (by decide +kernel) (by decide +kernel) rfl (by decide) (br_47 K hs hi h hR hS hNF h4 hb1 hb2 hl kk)
    | 48, _ => exact lv_tableIn (off := 2848) (tgt := 2888) hx hb dL_law__40 (by decide +kernel) (by decide +kernel) rfl (by decide) (br_48 K hs hi h hR hS hNF h4 hb1 hb2 hl kk)
    | n + 49, h => exact absurd h (by omega)
  · refine lv_tableOut (tgt := 2913) hx hb dL_law__40 (Or.inr ?_) (by decide) (kk oa aa sh ln μk μq f H locs cells slots ls rfl h hRel0 hS (by omega) (by omega) (by omega) hl)
    rw [nI_toInt (by omega)]
    omega
set_option maxHeartbeats 4000000 in
set_option maxRecDepth 100000 in
theorem law_loop {p : Program} {l : Launch} {e : Env} {s : State} {m : MethodId} {below : List Frame} {meth : Method} {c : Code} {D : va_G} {tc : Nat → ClassId} {ro : Ro} {A : Nat → Prop} {b o L : Nat} {xs : Nat → Int32} {ad : Nat → Nat} (K : LCw p s m c D tc ro A b L xs) (hs : l.stackTraces = false) (hr : meth.sig.returnType = ret) (hlk : meth.locks = false) (hA : ∀ q, A q → s.heap.size ≤ q) :
    ∀ (n i : Nat) (oa : Ky → Nat) (aa : Nat → Nat) (sh : Sh) (ln : Nat → Nat) (μk μq : Mm) (f : Nat → Int64) (H : Heap) (locs : List Loc) (cells slots : Nat) (ls : Array Slot), i ≤ 3078 → 3084 ≤ i + 6 * n → L3 D tc s A oa aa sh ln μk ad μq o f H locs → REL sh ln μq μk → S11 sh → 6 * sh 4 2 ≤ i → 6 * (cells + POc sh ln) + 3 * (3078 - i) ≤ 6 * 601024 → 6 * (slots + POs sh ln) + 520 * (3078 - i) ≤ 6 * 7293034 → lv_has ls 7 (lb b (oa (0, 0)) (ad 0) o i) → W p l e room_1 s m #[Value.ref b] below meth c H locs cells slots (lw_Z below #[Value.ref b] s) (F0 m 23 ls []) := by
  have hx := K.1.1.1
  have hb := K.1.1.2.1
  obtain ⟨-, hX, hbl, hbA, -, -, -, hL⟩ := id K
  intro n
  induction n with
  | zero =>
    intro i oa aa sh ln μk μq f H locs cells slots ls h1 h2
    exact absurd h2 (by omega)
  | succ n ih =>
    intro i oa aa sh ln μk μq f H locs cells slots ls h1 h2 h hRel hS h4 hb1 hb2 hl
    refine lv_iload hx hb dL_law__23 (lv_at hl 4 rfl) ?_
    refine lv_aload_n hx hb dL_law__25 rfl (lv_at hl 0 rfl) ?_
    refine va_slen hx hb hX hbl hbA h.1.2.1 dL_law__26 ?_
    refine lv_bipush (v := 6) hx hb dL_law__27 (by decide) ?_
    refine lv_isub hx hb dL_law__29 ?_
    refine lv_icmp_gt (tgt := 2919) hx hb dL_law__30 (by decide) (fun cg => ?_) (fun cg => ?_)
    · refine lv_iconst (v := 1) hx hb dL_law__2919 (by decide) ?_
      refine va_forget (fun q hq => hA _ (h.1.2.1.2.2 q hq)) ?_
      refine W.widen (k := 601024) (n := 7293034) (by omega) (by omega) ?_
      exact lw_ret hx hb hr hlk dL_law__2920
    · have hi6 := i6 hL h1 cg
      obtain ⟨V, nn, N, w0, r0, Λo, j, d, t, c0, T, z, hR⟩ := hRel
      have h4' : sh 4 2 < 600 := by omega
      have e00 : oaN oa μk (0, 0) = oa (0, 0) := oaN_o (by simp) (by simp)
      have h := h.norm hS h4' hR.wf hR.h9 hR.h10
      have hRel : REL sh ln μq (nrm sh μk) := ⟨V, nn, N, w0, r0, Λo, j, d, t, c0, T, z, hR.norm h4'⟩
      rw [← e00] at hl
      refine lv_aload_n hx hb dL_law__33 rfl (lv_at hl 0 rfl) ?_
      refine lv_iload hx hb dL_law__34 (lv_at hl 4 rfl) ?_
      refine va_sld hx hb hX hbl hbA h.1.2.1 (vp_in_nI (by omega) (by omega)) dL_law__36 ?_
      refine lv_bipush (v := 63) hx hb dL_law__37 (by decide) ?_
      refine lv_iand hx hb dL_law__39 ?_
      refine law_call K hs hi6 h hRel hS (nrm_nf hS hR.wf) h4' (by omega) (by omega) hl ?_ (and63 _)
      intro oa' aa' sh' ln' μk' μq' f' H' locs' cells' slots' ls' e0 h' hRel' hS' c1 c2 c3 hl'
      refine lv_iinc (k := 4) (x := nI i) (v := nI (i + 6)) (lv' := [(4, .int (nI (i + 6))), (0, .ref b), (1, .ref (oaN oa μk (0, 0))), (2, .ref (ad 0)), (3, .ref o)]) hx hb dL_law__2913 hl' rfl (by rw [← nI_add]; rfl) (by decide) rfl (fun ls hl => ?_)
      refine lv_goto (tgt := 23) hx hb dL_law__2916 (by decide) ?_
      rw [← e0] at hl
      exact ih (i + 6) oa' aa' sh' ln' μk' μq' f' H' locs' cells' slots' ls (by omega) (by omega) h' hRel' hS' (by omega) (by omega) (by omega) (lv_sub hl [1, 2, 3, 4, 0] rfl)
