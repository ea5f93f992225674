-- the law: told, and thrown
section ROWLR
variable {p : Program} {l : Launch} {e : Env} {R : Room} {s : State} {m : MethodId} {args : Array Value} {below : List Frame} {meth : Method} {c : Code} {H : Heap} {locs : List Loc} {cells slots : Nat} {Q : State → Prop}
variable {ccx : ByteArray} {pc nL : Nat} {ls : Array Slot} {rest : List Value} {D : va_G} {tc : Nat → ClassId} {ro : Ro} {oa : Ky → Nat} {aa : Nat → Nat} {sh : Sh} {ln : Nat → Nat} {A : Nat → Prop} {H0 : Heap} {μ : Mm}
theorem gf_X10_49 (C : Cx p s m args c RX10 ccx nL D tc ro A) (hW : Wd D (faB oa aa sh) (feB tc oa aa sh ln) A H0 μ H locs) (hdg : decode ccx pc = .ok (.getfield 49, 3)) (kk : W p l e R s m args below meth c H locs cells slots Q (F0 m (pc + 3) ls (.ref (oa (6, 1)) :: rest))) : W p l e R s m args below meth c H locs cells slots Q (F0 m pc ls (.ref (oa (0, 0)) :: rest)) :=
  r_get (k := ((0, 0) : Ky)) (fs := fsBV oa sh (μ (0, 0))) (T := TX10) (N := 13) (f := 5) C hW rfl (Nat.le_of_ble_eq_true rfl) kin_X10 kw_475 (Or.inl rfl) rfl rfl rfl hdg kk
end ROWLR
theorem madeO_e {sh : Sh} {ln : Nat → Nat} {μ : Mm} {v1 : Int32} {x : (Nat × Sh × Mm) × Nat × Nat} (hf : f_X3_madeO sh ln μ v1 = some x) : x.1.1 = sh 4 2 ∧ x.1.2.1 = shW sh (madeN μ).toNatClampNeg ∧ x.1.2.2 = muW μ (sh 4 2) (madeN μ).toNatClampNeg v1 := by
  unfold f_X3_madeO at hf
  obtain ⟨-, hf⟩ := ce_of hf
  cases hf
  exact ⟨rfl, rfl, rfl⟩
theorem mst_at {μ : Mm} {k : Ky} {f : Nat} {v : Int32} : mst μ k f v k = upd (μ k) f v := if_pos rfl
set_option maxHeartbeats 4000000 in
set_option maxRecDepth 100000 in
theorem cO_X10_law {l : Launch} {D : va_G} {tc : Nat → ClassId} {ro : Ro} {oa : Ky → Nat} {sh : Sh} {ln : Nat → Nat} {μ : Mm} {x : Int32} {sh' : Sh} {μ' : Mm} {KC KS : Nat} (hwf : WfS sh) (hsm : sh 4 2 + 1 < 2 ^ 31) (hno : ∀ x4 x12 x16 x22, f_X7_use sh ln μ = some x4 → f_X8_open_1 sh ln x4.2 x4.1 = some x12 → f_X3_startAnew sh ln x12 = some x16 → f_X8_readLines_1 sh ln x16 (12 : Int32) = some x22 → NOL sh x22.2) (hf : g_X10_law sh ln μ = some ((.inl x, sh', μ'), KC, KS)) : CtO l D tc ro oa yX10_law cX10_law 3 (some .int) (rma 40 1100 KC KS) [.ref (oa (0, 0))] sh ln μ (fun _ => some (.int x)) sh' ln μ' := by
  refine CtO.of (by decide) (Nat.le_of_ble_eq_true rfl) (fun aa p e s m args below meth c A C hr hk hW ls hl => ?_)
  have hx := C.1.1
  have hb := C.1.2.1
  obtain ⟨Q, hQ⟩ : ∃ Q, Q = MQ below (Cto D tc oa (fun _ => some (.int x)) sh sh' ln μ' A) args s (rma 40 1100 KC KS).cells (rma 40 1100 KC KS).slots A := ⟨_, rfl⟩
  rw [← hQ]
  have hl : lv_has ls 3 [(0, .ref (oa (0, 0)))] := hl
  have hcs : 0 + KC ≤ KC ∧ 0 + KS ≤ KS := ⟨by omega, by omega⟩
  unfold g_X10_law at hf
  refine lv_aload_n hx hb dX10_law_0 rfl (lv_at hl 0 rfl) ?_
  refine gf_X10_10 C hW dX10_law_1 ?_
  obtain ⟨x4, h4, hf⟩ := bd_of hf
  refine r_callV (k := ((2, 0) : Ky)) C hW hl lk_X10_86 (c_X7_use hwf h4) ⟨rfl, rfl⟩ ⟨Nat.le_of_ble_eq_true rfl, Nat.le_of_ble_eq_true rfl⟩ rfl rfl rfl (As := []) (rest := []) rfl rfl (Nat.le_of_ble_eq_true rfl) dX10_law_4 (ca_le hcs) (fun H locs hW => ?_)
  show W p l e (rma 40 1100 KC KS) s m args below meth c H locs 0 0 Q (F0 m 7 ls [.int x4.1])
  refine lv_istore_n (lv' := [(1, .int x4.1), (0, .ref (oa (0, 0)))]) hx hb dX10_law_7 rfl hl (by decide) rfl (fun ls hl => ?_)
  refine lv_aload_n hx hb dX10_law_8 rfl (lv_at hl 1 rfl) ?_
  refine gf_X10_49 C hW dX10_law_9 ?_
  refine lv_aload_n hx hb dX10_law_12 rfl (lv_at hl 1 rfl) ?_
  refine gf_X10_10 C hW dX10_law_13 ?_
  refine lv_iload_n hx hb dX10_law_16 rfl (lv_at hl 0 rfl) ?_
  obtain ⟨x12, h12, hf⟩ := bd_of hf
  refine r_callVU (k := ((6, 1) : Ky)) C hW hl lk_X10_125 (c_X8_open_1 hwf h12) ⟨rfl, rfl⟩ ⟨Nat.le_of_ble_eq_true rfl, Nat.le_of_ble_eq_true rfl⟩ rfl rfl rfl (As := [.ref (oa (2, 0)), .int x4.1]) (rest := []) rfl rfl (Nat.le_of_ble_eq_true rfl) dX10_law_17 (ca_le hcs) (fun H locs hW => ?_)
  show W p l e (rma 40 1100 KC KS) s m args below meth c H locs 0 0 Q (F0 m 20 ls [])
  refine lv_aload_n hx hb dX10_law_20 rfl (lv_at hl 1 rfl) ?_
  refine gf_X10_49 C hW dX10_law_21 ?_
  obtain ⟨x16, h16, hf⟩ := bd_of hf
  refine r_callV (k := ((6, 1) : Ky)) C hW hl lk_X10_126 (c_X3_startAnew hwf h16) ⟨rfl, rfl⟩ ⟨Nat.le_of_ble_eq_true rfl, Nat.le_of_ble_eq_true rfl⟩ rfl rfl rfl (As := []) (rest := []) rfl rfl (Nat.le_of_ble_eq_true rfl) dX10_law_24 (ca_le hcs) (fun H locs hW => ?_)
  show W p l e (rma 40 1100 KC KS) s m args below meth c H locs 0 0 Q (F0 m 27 ls [])
  refine lv_aload_n hx hb dX10_law_27 rfl (lv_at hl 1 rfl) ?_
  refine gf_X10_49 C hW dX10_law_28 ?_
  refine lv_bipush (v := 12) hx hb dX10_law_31 (by decide) ?_
  obtain ⟨x22, h22, hf⟩ := bd_of hf
  refine r_callVU (k := ((6, 1) : Ky)) C hW hl lk_X10_129 (c_X8_readLines_1 hwf h22) ⟨rfl, rfl⟩ ⟨Nat.le_of_ble_eq_true rfl, Nat.le_of_ble_eq_true rfl⟩ rfl rfl rfl (As := [.int (12 : Int32)]) (rest := []) rfl rfl (Nat.le_of_ble_eq_true rfl) dX10_law_33 (ca_le hcs) (fun H locs hW => ?_)
  show W p l e (rma 40 1100 KC KS) s m args below meth c H locs 0 0 Q (F0 m 36 ls [.int x22.1])
  refine lv_istore_n (lv' := [(2, .int x22.1), (1, .int x4.1), (0, .ref (oa (0, 0)))]) hx hb dX10_law_36 rfl hl (by decide) rfl (fun ls hl => ?_)
  refine lv_aload_n hx hb dX10_law_37 rfl (lv_at hl 2 rfl) ?_
  refine lv_aload_n hx hb dX10_law_38 rfl (lv_at hl 2 rfl) ?_
  refine gf_X10_49 C hW dX10_law_39 ?_
  obtain ⟨x30, h30, hf⟩ := bd_of hf
  refine r_callVU (k := ((6, 1) : Ky)) C hW hl lk_X10_130 (c_X8_wrong_1 hwf h30) ⟨rfl, rfl⟩ ⟨Nat.le_of_ble_eq_true rfl, Nat.le_of_ble_eq_true rfl⟩ rfl rfl rfl (As := []) (rest := [.ref (oa (0, 0))]) rfl rfl (Nat.le_of_ble_eq_true rfl) dX10_law_42 (ca_le hcs) (fun H locs hW => ?_)
  show W p l e (rma 40 1100 KC KS) s m args below meth c H locs 0 0 Q (F0 m 45 ls [.int x30, .ref (oa (0, 0))])
  refine pf_X10_67 C hW dX10_law_45 (fun H locs hW => ?_)
  refine lv_iload_n hx hb dX10_law_48 rfl (lv_at hl 0 rfl) ?_
  refine lv_iconst (v := -1) hx hb dX10_law_49 (by decide) ?_
  refine lv_icmp_ne (tgt := 63) hx hb dX10_law_50 (by decide) (fun c3 => ?_) (fun c3 => ?_)
  · have hf := (if_neg c3).symm.trans hf
    refine lv_aload_n hx hb dX10_law_63 rfl (lv_at hl 2 rfl) ?_
    refine gf_X10_60 C hW dX10_law_64 ?_
    refine lv_aload_n hx hb dX10_law_67 rfl (lv_at hl 2 rfl) ?_
    refine gf_X10_49 C hW dX10_law_68 ?_
    refine lv_iload_n hx hb dX10_law_71 rfl (lv_at hl 0 rfl) ?_
    obtain ⟨hq5, hf⟩ := ce_of hf
    obtain ⟨x55, h55, hf⟩ := bd_of hf
    obtain ⟨⟨i5, sh5, μ5⟩, k1, k2⟩ := x55
    obtain ⟨kc1, ks1, hf, ek1, es1⟩ := addc_of hf
    have hcs := cs_add hcs ek1 es1
    obtain ⟨e1, e2, e3⟩ := madeO_e h55
    have hno5 : NOL sh (mst x22.2 (0, 0) 12 x30) := fun s hs => hno x4 x12 x16 x22 h4 h12 h16 h22 s hs
    refine r_callO (k := ((6, 1) : Ky)) C hW hl lk_X10_133 (cO_X3_made hno5 h55) ⟨Nat.le_of_ble_eq_true rfl, Nat.le_of_ble_eq_true rfl⟩ rfl rfl rfl (As := [.int x22.1]) (rest := [.ref (oa (13, ((mst x22.2 (0, 0) 12 x30) (0, 0) 9).toNatClampNeg))]) rfl rfl (Nat.le_of_ble_eq_true rfl) dX10_law_72 (ca_le hcs) (fun oa2 aa H locs hg hW => ?_)
    rw [← hg.bv] at hl
    show W p l e (rma 40 1100 KC KS) s m args below meth c H locs (0 + k1) (0 + k2) Q (F0 m 75 ls [.ref (oa2 (14, i5)), .ref (oa (13, ((mst x22.2 (0, 0) 12 x30) (0, 0) 9).toNatClampNeg))])
    obtain ⟨j, hj⟩ : ∃ j, j = ((mst x22.2 (0, 0) 12 x30) (0, 0) 9).toNatClampNeg := ⟨_, rfl⟩
    rw [← hj, ← hg.st (hj ▸ hq5)]
    rw [← hj] at hf
    have hj5 : sh5 2 j = 1 := by have e2 : sh5 = _ := e2; rw [e2, shW_2, hj]; exact hq5
    have hwf5 : WfS sh5 := fun s => by have e2 : sh5 = _ := e2; rw [e2, shW_2]; exact hwf s
    have e1 : i5 = sh 4 2 := e1
    refine r_putG (k := ((13, j) : Ky)) (fs := fsSt oa2 j (μ5 (13, j))) (T := TX6) (N := 16) (f := 8) (v := .ref (oa2 (14, i5))) (fe' := feB tc oa2 aa sh5 ln) (μ' := mst μ5 (13, j) 8 (nI (i5 + 1))) C hW rfl (Nat.le_of_ble_eq_true rfl) kin_X6 tyX6_ok nmX6 kw_418 (Or.inl rfl) rfl (ty := .object "BackVillage$Law") (by decide +kernel) (faB_13 hj5) rfl (Nat.le_of_ble_eq_true rfl) rfl rfl ?_ (fun k hk => ?_) dX10_law_75 (fun H locs hW => ?_)
    · rw [mst_at]
      show (Sum.inr (6, fsSt oa2 j (upd (μ5 (13, j)) 8 (nI (i5 + 1)))) : va_E) = _
      have e8 : (if upd (μ5 (13, j)) 8 (nI (i5 + 1)) 8 = 0 then Value.null else .ref (oa2 (14, (upd (μ5 (13, j)) 8 (nI (i5 + 1)) 8).toNatClampNeg - 1))) = .ref (oa2 (14, i5)) := by
        have eu : upd (μ5 (13, j)) 8 (nI (i5 + 1)) 8 = nI (i5 + 1) := if_pos rfl
        rw [eu, nI_clamp (by omega), if_neg (fun h => ?_), Nat.add_sub_cancel]
        have := congrArg Int32.toNatClampNeg h
        rw [nI_clamp (by omega)] at this
        have : i5 + 1 = 0 := this
        omega
      refine congrArg (fun f => (Sum.inr (6, f) : va_E)) ?_
      unfold fsSt
      rw [e8]
      rfl
    · rw [mst_ne hk]
    refine lv_aload_n hx hb dX10_law_78 rfl (lv_at hl 2 rfl) ?_
    obtain ⟨x62, h62, hf⟩ := bd_of hf
    refine r_callV (k := ((0, 0) : Ky)) C hW hl lk_X10_122 (c_X10_forgetPast hwf5 h62) ⟨rfl, rfl⟩ ⟨Nat.le_of_ble_eq_true rfl, Nat.le_of_ble_eq_true rfl⟩ rfl rfl rfl (As := []) (rest := []) rfl rfl (Nat.le_of_ble_eq_true rfl) dX10_law_79 (ca_le hcs) (fun H locs hW => ?_)
    show W p l e (rma 40 1100 KC KS) s m args below meth c H locs (0 + k1) (0 + k2) Q (F0 m 82 ls [])
    refine lv_iload_n hx hb dX10_law_82 rfl (lv_at hl 0 rfl) ?_
    obtain ⟨eo, ek3, es3⟩ := retA hf
    obtain ⟨rfl, rfl, rfl⟩ : x22.1 = x ∧ sh5 = sh' ∧ x62 = μ' := by cases eo; exact ⟨rfl, rfl, rfl⟩
    rw [hQ]
    exact r_iretO C hr hk hg hW rfl (cs_end hcs).1 (cs_end hcs).2 dX10_law_83
  · have hf := (if_pos c3).symm.trans hf
    cases hf
set_option maxHeartbeats 4000000 in
set_option maxRecDepth 100000 in
theorem cT_X10_law {l : Launch} {D : va_G} {tc : Nat → ClassId} {ro : Ro} {oa : Ky → Nat} {sh : Sh} {ln : Nat → Nat} {μ : Mm} {cn : Nat} {sh' : Sh} {μ' : Mm} {KC KS : Nat} (hs : l.stackTraces = false) (hwf : WfS sh) (hf : g_X10_law sh ln μ = some ((.inr cn, sh', μ'), KC, KS)) : (sh = sh' ∧ 0 = KC ∧ 0 = KS) ∧ CtT l D tc ro oa yX10_law cX10_law 3 (some .int) (rma 40 1100 1 6) [.ref (oa (0, 0))] sh ln μ cn ln μ' := by
  have hsh : sh = sh' ∧ 0 = KC ∧ 0 = KS := by
    unfold g_X10_law at hf
    obtain ⟨x4, h4, hf⟩ := bd_of hf
    obtain ⟨x12, h12, hf⟩ := bd_of hf
    obtain ⟨x16, h16, hf⟩ := bd_of hf
    obtain ⟨x22, h22, hf⟩ := bd_of hf
    obtain ⟨x30, h30, hf⟩ := bd_of hf
    by_cases c : x22.1 = (-1 : Int32)
    · rw [if_pos c] at hf
      cases hf
      exact ⟨rfl, rfl, rfl⟩
    · rw [if_neg c] at hf
      obtain ⟨-, hf⟩ := ce_of hf
      obtain ⟨x55, -, hf⟩ := bd_of hf
      obtain ⟨kc1, ks1, hf, -, -⟩ := addc_of hf
      obtain ⟨x62, -, hf⟩ := bd_of hf
      cases hf
  refine ⟨hsh, CtT.of (by decide) (Nat.le_of_ble_eq_true rfl) (fun aa p e s m args below meth c A C hr hk hW ht hU hN ls hl => ?_)⟩
  have hx := C.1.1
  have hb := C.1.2.1
  obtain ⟨Q, hQ⟩ : ∃ Q, Q = vx_MQ below (fun _ _ _ _ => False) (XCt D tc oa sh cn ln μ' A) args s (rma 40 1100 1 6).cells (rma 40 1100 1 6).slots A := ⟨_, rfl⟩
  rw [← hQ]
  have hl : lv_has ls 3 [(0, .ref (oa (0, 0)))] := hl
  have hcs : 0 + KC ≤ KC ∧ 0 + KS ≤ KS := ⟨by omega, by omega⟩
  unfold g_X10_law at hf
  refine lv_aload_n hx hb dX10_law_0 rfl (lv_at hl 0 rfl) ?_
  refine gf_X10_10 C hW dX10_law_1 ?_
  obtain ⟨x4, h4, hf⟩ := bd_of hf
  refine r_callV (k := ((2, 0) : Ky)) C hW hl lk_X10_86 (c_X7_use hwf h4) ⟨rfl, rfl⟩ ⟨Nat.le_of_ble_eq_true rfl, Nat.le_of_ble_eq_true rfl⟩ rfl rfl rfl (As := []) (rest := []) rfl rfl (Nat.le_of_ble_eq_true rfl) dX10_law_4 ⟨Nat.zero_le _, Nat.zero_le _⟩ (fun H locs hW => ?_)
  show W p l e (rma 40 1100 1 6) s m args below meth c H locs 0 0 Q (F0 m 7 ls [.int x4.1])
  refine lv_istore_n (lv' := [(1, .int x4.1), (0, .ref (oa (0, 0)))]) hx hb dX10_law_7 rfl hl (by decide) rfl (fun ls hl => ?_)
  refine lv_aload_n hx hb dX10_law_8 rfl (lv_at hl 1 rfl) ?_
  refine gf_X10_49 C hW dX10_law_9 ?_
  refine lv_aload_n hx hb dX10_law_12 rfl (lv_at hl 1 rfl) ?_
  refine gf_X10_10 C hW dX10_law_13 ?_
  refine lv_iload_n hx hb dX10_law_16 rfl (lv_at hl 0 rfl) ?_
  obtain ⟨x12, h12, hf⟩ := bd_of hf
  refine r_callVU (k := ((6, 1) : Ky)) C hW hl lk_X10_125 (c_X8_open_1 hwf h12) ⟨rfl, rfl⟩ ⟨Nat.le_of_ble_eq_true rfl, Nat.le_of_ble_eq_true rfl⟩ rfl rfl rfl (As := [.ref (oa (2, 0)), .int x4.1]) (rest := []) rfl rfl (Nat.le_of_ble_eq_true rfl) dX10_law_17 ⟨Nat.zero_le _, Nat.zero_le _⟩ (fun H locs hW => ?_)
  show W p l e (rma 40 1100 1 6) s m args below meth c H locs 0 0 Q (F0 m 20 ls [])
  refine lv_aload_n hx hb dX10_law_20 rfl (lv_at hl 1 rfl) ?_
  refine gf_X10_49 C hW dX10_law_21 ?_
  obtain ⟨x16, h16, hf⟩ := bd_of hf
  refine r_callV (k := ((6, 1) : Ky)) C hW hl lk_X10_126 (c_X3_startAnew hwf h16) ⟨rfl, rfl⟩ ⟨Nat.le_of_ble_eq_true rfl, Nat.le_of_ble_eq_true rfl⟩ rfl rfl rfl (As := []) (rest := []) rfl rfl (Nat.le_of_ble_eq_true rfl) dX10_law_24 ⟨Nat.zero_le _, Nat.zero_le _⟩ (fun H locs hW => ?_)
  show W p l e (rma 40 1100 1 6) s m args below meth c H locs 0 0 Q (F0 m 27 ls [])
  refine lv_aload_n hx hb dX10_law_27 rfl (lv_at hl 1 rfl) ?_
  refine gf_X10_49 C hW dX10_law_28 ?_
  refine lv_bipush (v := 12) hx hb dX10_law_31 (by decide) ?_
  obtain ⟨x22, h22, hf⟩ := bd_of hf
  refine r_callVU (k := ((6, 1) : Ky)) C hW hl lk_X10_129 (c_X8_readLines_1 hwf h22) ⟨rfl, rfl⟩ ⟨Nat.le_of_ble_eq_true rfl, Nat.le_of_ble_eq_true rfl⟩ rfl rfl rfl (As := [.int (12 : Int32)]) (rest := []) rfl rfl (Nat.le_of_ble_eq_true rfl) dX10_law_33 ⟨Nat.zero_le _, Nat.zero_le _⟩ (fun H locs hW => ?_)
  show W p l e (rma 40 1100 1 6) s m args below meth c H locs 0 0 Q (F0 m 36 ls [.int x22.1])
  refine lv_istore_n (lv' := [(2, .int x22.1), (1, .int x4.1), (0, .ref (oa (0, 0)))]) hx hb dX10_law_36 rfl hl (by decide) rfl (fun ls hl => ?_)
  refine lv_aload_n hx hb dX10_law_37 rfl (lv_at hl 2 rfl) ?_
  refine lv_aload_n hx hb dX10_law_38 rfl (lv_at hl 2 rfl) ?_
  refine gf_X10_49 C hW dX10_law_39 ?_
  obtain ⟨x30, h30, hf⟩ := bd_of hf
  refine r_callVU (k := ((6, 1) : Ky)) C hW hl lk_X10_130 (c_X8_wrong_1 hwf h30) ⟨rfl, rfl⟩ ⟨Nat.le_of_ble_eq_true rfl, Nat.le_of_ble_eq_true rfl⟩ rfl rfl rfl (As := []) (rest := [.ref (oa (0, 0))]) rfl rfl (Nat.le_of_ble_eq_true rfl) dX10_law_42 ⟨Nat.zero_le _, Nat.zero_le _⟩ (fun H locs hW => ?_)
  show W p l e (rma 40 1100 1 6) s m args below meth c H locs 0 0 Q (F0 m 45 ls [.int x30, .ref (oa (0, 0))])
  refine pf_X10_67 C hW dX10_law_45 (fun H locs hW => ?_)
  refine lv_iload_n hx hb dX10_law_48 rfl (lv_at hl 0 rfl) ?_
  refine lv_iconst (v := -1) hx hb dX10_law_49 (by decide) ?_
  refine lv_icmp_ne (tgt := 63) hx hb dX10_law_50 (by decide) (fun c3 => ?_) (fun c3 => ?_)
  · rw [if_neg c3] at hf
    obtain ⟨-, hf⟩ := ce_of hf
    obtain ⟨x55, -, hf⟩ := bd_of hf
    obtain ⟨kc1, ks1, hf, -, -⟩ := addc_of hf
    obtain ⟨x62, -, hf⟩ := bd_of hf
    cases hf
  · rw [if_pos c3] at hf
    obtain ⟨rfl, rfl⟩ : 3 = cn ∧ mst x22.2 (0, 0) 12 x30 = μ' := by cases hf; exact ⟨rfl, rfl⟩
    rw [hQ]
    exact r_throw (np := 59) (sa := ro.1 26) (cn := 3) (E := "java/lang/IllegalArgumentException") (Y0 := "java/lang/RuntimeException") (names := ["java/lang/Exception"]) (text := "the text of the law is wrong") C hs ht hU hN hk hW hl rfl exw_3 exd_3 (by decide) (by decide) (by decide) (C.2.2.2.1 ("BackVillage", 131, "the text of the law is wrong", 26) mr_131) dX10_law_53 dX10_law_56 (Or.inl ⟨dX10_law_57, rfl⟩) dX10_law_59 dX10_law_62 (Nat.le_of_ble_eq_true rfl) (Nat.le_of_ble_eq_true rfl) (Nat.le_of_ble_eq_true rfl) (Nat.le_of_ble_eq_true rfl) (Nat.le_of_ble_eq_true rfl) (Nat.le_of_ble_eq_true rfl)
