-- village: the throwing ways
theorem ca_leT {ce sl x y KC KS f n : Nat} (h : ce + x ≤ KC ∧ sl + y ≤ KS) : ce ≤ (rma f n (KC + 1) (KS + 6)).cells ∧ sl ≤ (rma f n (KC + 1) (KS + 6)).slots := by
  show ce ≤ KC + 1 ∧ sl ≤ KS + 6
  omega
theorem ca_t1 {ce sl x y KC KS f n : Nat} (h : ce + x ≤ KC ∧ sl + y ≤ KS) : ce + 1 ≤ (rma f n (KC + 1) (KS + 6)).cells := by
  show ce + 1 ≤ KC + 1
  omega
theorem ca_t2 {ce sl x y KC KS f n : Nat} (h : ce + x ≤ KC ∧ sl + y ≤ KS) : sl + 6 ≤ (rma f n (KC + 1) (KS + 6)).slots := by
  show sl + 6 ≤ KS + 6
  omega
set_option maxHeartbeats 4000000 in
set_option maxRecDepth 100000 in
theorem cT_X10_village {l : Launch} {D : va_G} {tc : Nat → ClassId} {ro : Ro} {oa : Ky → Nat} {sh : Sh} {lm : Nat → Nat} {μ : Mm} {cn : Nat} {lm' : Nat → Nat} {μ' : Mm} {KC KS : Nat} (hs : l.stackTraces = false) (hwf : WfS sh) (hf : g_X10_village sh lm μ = some ((.inr cn, lm', μ'), KC, KS)) : CtT l D tc ro oa yX10_village cX10_village 4 (some .int) (rma 10 220 (KC + 1) (KS + 6)) [.ref (oa (0, 0))] sh lm μ cn lm' μ' := by
  refine CtT.of (by decide) (Nat.le_of_ble_eq_true rfl) (fun aa p e s m args below meth c A C hr hk hW ht hU hN ls hl => ?_)
  have hx := C.1.1
  have hb := C.1.2.1
  obtain ⟨Q, hQ⟩ : ∃ Q, Q = vx_MQ below (fun _ _ _ _ => False) (XCt D tc oa sh cn lm' μ' A) args s (rma 10 220 (KC + 1) (KS + 6)).cells (rma 10 220 (KC + 1) (KS + 6)).slots A := ⟨_, rfl⟩
  rw [← hQ]
  have hl : lv_has ls 4 [(0, .ref (oa (0, 0)))] := hl
  have hcs : 0 + KC ≤ KC ∧ 0 + KS ≤ KS := ⟨by omega, by omega⟩
  unfold g_X10_village at hf
  refine lv_aload_n hx hb dX10_village_0 rfl (lv_at hl 0 rfl) ?_
  refine gf_X10_10 C hW dX10_village_1 ?_
  obtain ⟨x4, h4, hf⟩ := bd_of hf
  refine r_callV (k := ((2, 0) : Ky)) C hW hl lk_X10_86 (c_X7_use hwf h4) ⟨rfl, rfl⟩ ⟨Nat.le_of_ble_eq_true rfl, Nat.le_of_ble_eq_true rfl⟩ rfl rfl rfl (As := []) (rest := []) rfl rfl (Nat.le_of_ble_eq_true rfl) dX10_village_4 (ca_leT hcs) (fun H locs hW => ?_)
  show W p l e (rma 10 220 (KC + 1) (KS + 6)) s m args below meth c H locs 0 0 Q (F0 m 7 ls [.int x4.1])
  refine lv_istore_n (lv' := [(1, .int x4.1), (0, .ref (oa (0, 0)))]) hx hb dX10_village_7 rfl hl (by decide) rfl (fun ls hl => ?_)
  refine lv_aload_n hx hb dX10_village_8 rfl (lv_at hl 1 rfl) ?_
  refine gf_X10_64 C hW dX10_village_9 ?_
  obtain ⟨hq1, hf⟩ := ce_of hf
  refine lv_aload_n hx hb dX10_village_12 rfl (lv_at hl 1 rfl) ?_
  refine gf_X10_60 C hW dX10_village_13 ?_
  obtain ⟨hq2, hf⟩ := ce_of hf
  obtain ⟨x16, h16, hf⟩ := bd_of hf
  obtain ⟨kc3, ks3, hf, ek3, es3⟩ := addc_of hf
  have hcs := cs_add hcs ek3 es3
  refine r_callA (k := ((13, (x4.2 (0, 0) 10).toNatClampNeg) : Ky)) C hW hl lk_X10_89 (cA_X6_become hwf hq1 hq2 h16) ⟨Nat.le_of_ble_eq_true rfl, Nat.le_of_ble_eq_true rfl⟩ rfl (faB_13 hq1) rfl (As := [.ref (oa (13, (x4.2 (0, 0) 9).toNatClampNeg))]) (rest := []) rfl rfl (Nat.le_of_ble_eq_true rfl) dX10_village_16 (ca_leT hcs) (fun aa H locs hW => ?_)
  show W p l e (rma 10 220 (KC + 1) (KS + 6)) s m args below meth c H locs (0 + x16.2.1) (0 + x16.2.2) Q (F0 m 19 ls [])
  refine lv_aload_n hx hb dX10_village_19 rfl (lv_at hl 1 rfl) ?_
  refine gf_X10_42 C hW dX10_village_20 ?_
  refine lv_aload_n hx hb dX10_village_23 rfl (lv_at hl 1 rfl) ?_
  refine gf_X10_10 C hW dX10_village_24 ?_
  refine lv_iload_n hx hb dX10_village_27 rfl (lv_at hl 0 rfl) ?_
  obtain ⟨x28, h28, hf⟩ := bd_of hf
  refine r_callVU (k := ((6, 0) : Ky)) C hW hl lk_X10_93 (c_X8_open_0 hwf h28) ⟨rfl, rfl⟩ ⟨Nat.le_of_ble_eq_true rfl, Nat.le_of_ble_eq_true rfl⟩ rfl rfl rfl (As := [.ref (oa (2, 0)), .int x4.1]) (rest := []) rfl rfl (Nat.le_of_ble_eq_true rfl) dX10_village_28 (ca_leT hcs) (fun H locs hW => ?_)
  show W p l e (rma 10 220 (KC + 1) (KS + 6)) s m args below meth c H locs (0 + x16.2.1) (0 + x16.2.2) Q (F0 m 31 ls [])
  refine lv_aload_n hx hb dX10_village_31 rfl (lv_at hl 1 rfl) ?_
  refine gf_X10_42 C hW dX10_village_32 ?_
  refine lv_aload_n hx hb dX10_village_35 rfl (lv_at hl 1 rfl) ?_
  refine gf_X10_64 C hW dX10_village_36 ?_
  obtain ⟨hq4, hf⟩ := ce_of hf
  obtain ⟨x39, h39, hf⟩ := bd_of hf
  refine r_callV (k := ((6, 0) : Ky)) C hW hl lk_X10_97 (c_X9_aimAt hwf hq4 h39) ⟨rfl, rfl⟩ ⟨Nat.le_of_ble_eq_true rfl, Nat.le_of_ble_eq_true rfl⟩ rfl rfl rfl (As := [.ref (oa (13, (x28 (0, 0) 10).toNatClampNeg))]) (rest := []) rfl rfl (Nat.le_of_ble_eq_true rfl) dX10_village_39 (ca_leT hcs) (fun H locs hW => ?_)
  show W p l e (rma 10 220 (KC + 1) (KS + 6)) s m args below meth c H locs (0 + x16.2.1) (0 + x16.2.2) Q (F0 m 42 ls [])
  refine lv_aload_n hx hb dX10_village_42 rfl (lv_at hl 1 rfl) ?_
  refine gf_X10_42 C hW dX10_village_43 ?_
  refine lv_bipush (v := 14) hx hb dX10_village_46 (by decide) ?_
  obtain ⟨x48, h48, hf⟩ := bd_of hf
  obtain ⟨kc5, ks5, hf, ek5, es5⟩ := addc_of hf
  have hcs := cs_add hcs ek5 es5
  refine r_callAU (k := ((6, 0) : Ky)) C hW hl lk_X10_100 (cA_X8_readLines_0 hwf h48) ⟨Nat.le_of_ble_eq_true rfl, Nat.le_of_ble_eq_true rfl⟩ rfl rfl rfl (As := [.int (14 : Int32)]) (rest := []) rfl rfl (Nat.le_of_ble_eq_true rfl) dX10_village_48 (ca_leT hcs) (fun aa H locs hW => ?_)
  show W p l e (rma 10 220 (KC + 1) (KS + 6)) s m args below meth c H locs ((0 + x16.2.1) + x48.2.1) ((0 + x16.2.2) + x48.2.2) Q (F0 m 51 ls [.int x48.1.1])
  refine lv_istore_n (lv' := [(2, .int x48.1.1), (1, .int x4.1), (0, .ref (oa (0, 0)))]) hx hb dX10_village_51 rfl hl (by decide) rfl (fun ls hl => ?_)
  refine lv_aload_n hx hb dX10_village_52 rfl (lv_at hl 2 rfl) ?_
  refine lv_aload_n hx hb dX10_village_53 rfl (lv_at hl 2 rfl) ?_
  refine gf_X10_42 C hW dX10_village_54 ?_
  obtain ⟨x57, h57, hf⟩ := bd_of hf
  refine r_callVU (k := ((6, 0) : Ky)) C hW hl lk_X10_104 (c_X8_wrong_0 hwf h57) ⟨rfl, rfl⟩ ⟨Nat.le_of_ble_eq_true rfl, Nat.le_of_ble_eq_true rfl⟩ rfl rfl rfl (As := []) (rest := [.ref (oa (0, 0))]) rfl rfl (Nat.le_of_ble_eq_true rfl) dX10_village_57 (ca_leT hcs) (fun H locs hW => ?_)
  show W p l e (rma 10 220 (KC + 1) (KS + 6)) s m args below meth c H locs ((0 + x16.2.1) + x48.2.1) ((0 + x16.2.2) + x48.2.2) Q (F0 m 60 ls [.int x57, .ref (oa (0, 0))])
  refine pf_X10_67 C hW dX10_village_60 (fun H locs hW => ?_)
  refine lv_iload_n hx hb dX10_village_63 rfl (lv_at hl 0 rfl) ?_
  refine lv_iconst (v := -1) hx hb dX10_village_64 (by decide) ?_
  refine lv_icmp_ne (tgt := 78) hx hb dX10_village_65 (by decide) (fun c6 => ?_) (fun c6 => ?_)
  · have hf := (if_neg c6).symm.trans hf
    refine lv_aload_n hx hb dX10_village_78 rfl (lv_at hl 2 rfl) ?_
    refine gf_X10_60 C hW dX10_village_79 ?_
    obtain ⟨hq7, hf⟩ := ce_of hf
    refine gf_X10_114 C hW hq7 dX10_village_82 ?_
    refine lv_bipush (v := 12) hx hb dX10_village_85 (by decide) ?_
    refine lv_icmp_lt (tgt := 100) hx hb dX10_village_87 (by decide) (fun c8 => ?_) (fun c8 => ?_)
    · have hf := (if_pos c8).symm.trans hf
      refine lv_aload_n hx hb dX10_village_100 rfl (lv_at hl 2 rfl) ?_
      refine gf_X10_64 C hW dX10_village_101 ?_
      obtain ⟨hq9, hf⟩ := ce_of hf
      refine lv_dup hx hb dX10_village_104 rfl ?_
      refine gf_X10_114 C hW hq9 dX10_village_105 ?_
      refine lv_iconst (v := 1) hx hb dX10_village_108 (by decide) ?_
      refine lv_iadd hx hb dX10_village_109 ?_
      refine pf_X10_114 C hW hq9 dX10_village_110 (fun H locs hW => ?_)
      obtain ⟨μ10, hm10, hf⟩ := bd_of hf
      rw [Option.some.inj hm10] at hW
      refine lv_aload_n hx hb dX10_village_113 rfl (lv_at hl 2 rfl) ?_
      refine gf_X10_60 C hW dX10_village_114 ?_
      obtain ⟨hq11, hf⟩ := ce_of hf
      refine lv_astore_n (lv' := [(3, .ref (oa (13, (μ10 (0, 0) 9).toNatClampNeg))), (2, .int x48.1.1), (1, .int x4.1), (0, .ref (oa (0, 0)))]) hx hb dX10_village_117 rfl hl (by decide) rfl (fun ls hl => ?_)
      refine lv_aload_n hx hb dX10_village_118 rfl (lv_at hl 3 rfl) ?_
      refine lv_aload_n hx hb dX10_village_119 rfl (lv_at hl 3 rfl) ?_
      refine gf_X10_64 C hW dX10_village_120 ?_
      obtain ⟨hq12, hf⟩ := ce_of hf
      obtain ⟨hb13, hf⟩ := ce_of hf
      refine pr_X10_60_st0 C hW hb13 dX10_village_123 (fun H locs hW => ?_)
      refine lv_aload_n hx hb dX10_village_126 rfl (lv_at hl 3 rfl) ?_
      refine lv_aload_n hx hb dX10_village_127 rfl (lv_at hl 0 rfl) ?_
      obtain ⟨hb14, hf⟩ := ce_of hf
      refine pr_X10_64_st0 C hW hb14 dX10_village_128 (fun H locs hW => ?_)
      obtain ⟨μ15, hm15, hf⟩ := bd_of hf
      rw [Option.some.inj hm15] at hW
      refine lv_aload_n hx hb dX10_village_131 rfl (lv_at hl 3 rfl) ?_
      obtain ⟨x132, h132, hf⟩ := bd_of hf
      refine r_callV (k := ((0, 0) : Ky)) C hW hl lk_X10_122 (c_X10_forgetPast hwf h132) ⟨rfl, rfl⟩ ⟨Nat.le_of_ble_eq_true rfl, Nat.le_of_ble_eq_true rfl⟩ rfl rfl rfl (As := []) (rest := []) rfl rfl (Nat.le_of_ble_eq_true rfl) dX10_village_132 (ca_leT hcs) (fun H locs hW => ?_)
      show W p l e (rma 10 220 (KC + 1) (KS + 6)) s m args below meth c H locs ((0 + x16.2.1) + x48.2.1) ((0 + x16.2.2) + x48.2.2) Q (F0 m 135 ls [])
      refine lv_aload_n hx hb dX10_village_135 rfl (lv_at hl 3 rfl) ?_
      refine gf_X10_60 C hW dX10_village_136 ?_
      obtain ⟨hq16, hf⟩ := ce_of hf
      refine gf_X10_114 C hW hq16 dX10_village_139 ?_
      obtain ⟨eo, -, -⟩ := retA hf
      cases eo
    · have hf := (if_neg c8).symm.trans hf
      obtain ⟨eo, ek1, ek2⟩ := retA hf
      obtain ⟨rfl, rfl, rfl⟩ : 5 = cn ∧ x48.1.2.1 = lm' ∧ mst x48.1.2.2 (0, 0) 12 x57 = μ' := by cases eo; exact ⟨rfl, rfl, rfl⟩
      rw [hQ]
      exact r_throw (np := 96) (sa := ro.1 25) (cn := 5) (E := "java/lang/UnsupportedOperationException") (Y0 := "java/lang/RuntimeException") (names := ["java/lang/Exception"]) (text := "there are 12 texts") C hs ht hU hN hk hW hl rfl exw_5 exd_5 (by decide) (by decide) (by decide) (C.2.2.2.1 ("BackVillage", 119, "there are 12 texts", 25) mr_119) dX10_village_90 dX10_village_93 (Or.inl ⟨dX10_village_94, rfl⟩) dX10_village_96 dX10_village_99 (Nat.le_of_ble_eq_true rfl) (Nat.le_of_ble_eq_true rfl) (ca_t1 hcs) (ca_t2 hcs) (ca_t1 hcs) (ca_t2 hcs)
  · have hf := (if_pos c6).symm.trans hf
    obtain ⟨eo, ek1, ek2⟩ := retA hf
    obtain ⟨rfl, rfl, rfl⟩ : 3 = cn ∧ x48.1.2.1 = lm' ∧ mst x48.1.2.2 (0, 0) 12 x57 = μ' := by cases eo; exact ⟨rfl, rfl, rfl⟩
    rw [hQ]
    exact r_throw (np := 74) (sa := ro.1 24) (cn := 3) (E := "java/lang/IllegalArgumentException") (Y0 := "java/lang/RuntimeException") (names := ["java/lang/Exception"]) (text := "the text of the village is wrong") C hs ht hU hN hk hW hl rfl exw_3 exd_3 (by decide) (by decide) (by decide) (C.2.2.2.1 ("BackVillage", 109, "the text of the village is wrong", 24) mr_109) dX10_village_68 dX10_village_71 (Or.inl ⟨dX10_village_72, rfl⟩) dX10_village_74 dX10_village_77 (Nat.le_of_ble_eq_true rfl) (Nat.le_of_ble_eq_true rfl) (ca_t1 hcs) (ca_t2 hcs) (ca_t1 hcs) (ca_t2 hcs)
