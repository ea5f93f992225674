theorem cs_out {ce sl kc ks K1 K2 KC KS : Nat} (h : ce + (kc + K1) ≤ KC ∧ sl + (ks + K2) ≤ KS) (h1 : K1 = 0) (h2 : K2 = 0) : ce + kc ≤ KC ∧ sl + ks ≤ KS := by
  subst h1; subst h2; exact h
theorem cs_in {ce sl kc ks K1 K2 KC KS : Nat} (h : ce + (kc + K1) ≤ KC ∧ sl + (ks + K2) ≤ KS) (h1 : 0 = kc) (h2 : 0 = ks) : ce + K1 ≤ KC ∧ sl + K2 ≤ KS := by
  subst h1; subst h2
  rw [Nat.zero_add, Nat.zero_add] at h
  exact h
theorem cs_add {ce sl kc ks c d kc' ks' KC KS : Nat} (h : ce + kc ≤ KC ∧ sl + ks ≤ KS) (h1 : kc = c + kc') (h2 : ks = d + ks') : (ce + c) + kc' ≤ KC ∧ (sl + d) + ks' ≤ KS := by
  subst h1; subst h2
  exact ⟨by omega, by omega⟩
theorem cs_add1 {ce sl kc ks K1 K2 c d kc' ks' KC KS : Nat} (h : ce + (kc + K1) ≤ KC ∧ sl + (ks + K2) ≤ KS) (h1 : kc = c + kc') (h2 : ks = d + ks') : (ce + c) + (kc' + K1) ≤ KC ∧ (sl + d) + (ks' + K2) ≤ KS := by
  subst h1; subst h2
  exact ⟨by omega, by omega⟩
theorem ca_le {ce sl x y KC KS f n : Nat} (h : ce + x ≤ KC ∧ sl + y ≤ KS) : ce ≤ (rma f n KC KS).cells ∧ sl ≤ (rma f n KC KS).slots := ⟨Nat.le_trans (Nat.le_add_right _ _) h.1, Nat.le_trans (Nat.le_add_right _ _) h.2⟩
theorem cs_end {ce sl kc ks KC KS f n : Nat} (h : ce + kc ≤ KC ∧ sl + ks ≤ KS) : ce ≤ (rma f n KC KS).cells ∧ sl ≤ (rma f n KC KS).slots := ca_le h
set_option maxHeartbeats 4000000 in
set_option maxRecDepth 100000 in
theorem cA_X1_become {l : Launch} {D : va_G} {tc : Nat → ClassId} {ro : Ro} {oa : Ky → Nat} {sh : Sh} {lm : Nat → Nat} {cl0 cl1 : Nat} {μ : Mm} {v2 : Int32} {res : Int32 × (Nat → Nat) × Mm} {KC KS : Nat} (hwf : WfS sh) (hc0 : cex sh cl0 = true) (hc1 : cex sh cl1 = true) (hf : f_X1_becomeA sh lm cl0 cl1 μ v2 = some (res, KC, KS)) : CtA l D tc ro oa yX1_become cX1_become 4 none (rma 3 103 KC KS) [.ref (oa (11, cl0)), .ref (oa (11, cl1)), .int v2] sh lm μ none res.2.1 res.2.2 := by
  refine CtA.of (by decide) (Nat.le_of_ble_eq_true rfl) (fun aa p e s m args below meth c A C hr hk hW ls hl => ?_)
  have hx := C.1.1
  have hb := C.1.2.1
  obtain ⟨Q, hQ⟩ : ∃ Q, Q = MQ below (Cta D tc oa none sh res.2.1 res.2.2 A) args s (rma 3 103 KC KS).cells (rma 3 103 KC KS).slots A := ⟨_, rfl⟩
  rw [← hQ]
  have hl : lv_has ls 4 [(0, .ref (oa (11, cl0))), (1, .ref (oa (11, cl1))), (2, .int v2)] := hl
  have hcs : 0 + KC ≤ KC ∧ 0 + KS ≤ KS := ⟨by omega, by omega⟩
  unfold f_X1_becomeA at hf
  refine lv_aload_n hx hb dX1_become_0 rfl (lv_at hl 1 rfl) ?_
  refine lv_ifnonnull (tgt := 5) hx hb dX1_become_1 (by decide) ?_
  refine lv_iconst (v := 0) hx hb dX1_become_5 (by decide) ?_
  refine lv_iload_n hx hb dX1_become_6 rfl (lv_at hl 2 rfl) ?_
  refine lv_aload_n hx hb dX1_become_7 rfl (lv_at hl 1 rfl) ?_
  refine gf_X1_13 C hW hc1 dX1_become_8 ?_
  refine r_alen (k := ((12, cl1) : Ky)) (t := 0) (v := (nI (lm cl1))) C hW (faB_12 hc1) rfl rfl rfl dX1_become_11 ?_
  refine r_mmin C hl kw_559 kw_560 kw_140 kw_561 (Nat.le_of_ble_eq_true rfl) (Nat.le_of_ble_eq_true rfl) (ca_le hcs) dX1_become_12 ?_
  refine r_mmax C hl kw_190 kw_191 kw_140 kw_192 (Nat.le_of_ble_eq_true rfl) (Nat.le_of_ble_eq_true rfl) (ca_le hcs) dX1_become_15 ?_
  refine lv_istore_n (lv' := [(3, .int (if (0 : Int32) < (if (nI (lm cl1)) < v2 then (nI (lm cl1)) else v2) then (if (nI (lm cl1)) < v2 then (nI (lm cl1)) else v2) else (0 : Int32))), (0, .ref (oa (11, cl0))), (1, .ref (oa (11, cl1))), (2, .int v2)]) hx hb dX1_become_18 rfl hl (by decide) rfl (fun ls hl => ?_)
  refine lv_aload_n hx hb dX1_become_19 rfl (lv_at hl 1 rfl) ?_
  refine lv_iload_n hx hb dX1_become_20 rfl (lv_at hl 0 rfl) ?_
  obtain ⟨x21, h21, hf⟩ := bd_of hf
  obtain ⟨kc1, ks1, hf, ek1, es1⟩ := addc_of hf
  have hcs := cs_add hcs ek1 es1
  refine r_callA (k := ((11, cl0) : Ky)) C hW hl lk_X1_40 (cA_X1_grow hwf hc0 h21) ⟨Nat.le_of_ble_eq_true rfl, Nat.le_of_ble_eq_true rfl⟩ rfl (faB_11 hc0) rfl (As := [.int (if (0 : Int32) < (if (nI (lm cl1)) < v2 then (nI (lm cl1)) else v2) then (if (nI (lm cl1)) < v2 then (nI (lm cl1)) else v2) else (0 : Int32))]) (rest := []) rfl rfl (Nat.le_of_ble_eq_true rfl) dX1_become_21 (ca_le hcs) (fun aa H locs hW => ?_)
  show W p l e (rma 3 103 KC KS) s m args below meth c H locs (0 + x21.2.1) (0 + x21.2.2) Q (F0 m 24 ls [])
  refine lv_aload_n hx hb dX1_become_24 rfl (lv_at hl 2 rfl) ?_
  refine gf_X1_13 C hW hc1 dX1_become_25 ?_
  refine lv_iconst (v := 0) hx hb dX1_become_28 (by decide) ?_
  refine lv_aload_n hx hb dX1_become_29 rfl (lv_at hl 1 rfl) ?_
  refine gf_X1_13 C hW hc0 dX1_become_30 ?_
  refine lv_iconst (v := 0) hx hb dX1_become_33 (by decide) ?_
  refine lv_iload_n hx hb dX1_become_34 rfl (lv_at hl 0 rfl) ?_
  obtain ⟨hi2, hf⟩ := cc_of hf
  refine r_copy (k := ((12, cl1) : Ky)) (k2 := ((12, cl0) : Ky)) (n1 := x21.1.2.1 cl1) (n2 := x21.1.2.1 cl0) C hW hl kw_580 kw_579 kw_578 kw_150 (Nat.le_of_ble_eq_true rfl) (Nat.le_of_ble_eq_true rfl) (faB_12 hc1) (fun _ => rfl) (faB_12 hc0) (fun _ => rfl) hi2 dX1_become_35 (fun H locs hW => ?_)
  obtain ⟨eo, ek1, ek2⟩ := retA hf
  subst eo
  rw [hQ]
  exact r_vretA C hr hk hW (cs_end hcs).1 (cs_end hcs).2 dX1_become_38
set_option maxHeartbeats 4000000 in
set_option maxRecDepth 100000 in
theorem cA_X6_become {l : Launch} {D : va_G} {tc : Nat → ClassId} {ro : Ro} {oa : Ky → Nat} {sh : Sh} {lm : Nat → Nat} {j0 j1 : Nat} {μ : Mm} {res : Int32 × (Nat → Nat) × Mm} {KC KS : Nat} (hwf : WfS sh) (hj0 : sh 2 j0 = 1) (hj1 : sh 2 j1 = 1) (hf : f_X6_becomeA sh lm j0 j1 μ = some (res, KC, KS)) : CtA l D tc ro oa yX6_become cX6_become 2 none (rma 4 126 KC KS) [.ref (oa (13, j0)), .ref (oa (13, j1))] sh lm μ none res.2.1 res.2.2 := by
  refine CtA.of (by decide) (Nat.le_of_ble_eq_true rfl) (fun aa p e s m args below meth c A C hr hk hW ls hl => ?_)
  have hx := C.1.1
  have hb := C.1.2.1
  obtain ⟨Q, hQ⟩ : ∃ Q, Q = MQ below (Cta D tc oa none sh res.2.1 res.2.2 A) args s (rma 4 126 KC KS).cells (rma 4 126 KC KS).slots A := ⟨_, rfl⟩
  rw [← hQ]
  have hl : lv_has ls 2 [(0, .ref (oa (13, j0))), (1, .ref (oa (13, j1)))] := hl
  have hcs : 0 + KC ≤ KC ∧ 0 + KS ≤ KS := ⟨by omega, by omega⟩
  unfold f_X6_becomeA at hf
  refine lv_aload_n hx hb dX6_become_0 rfl (lv_at hl 1 rfl) ?_
  refine lv_ifnull hx hb dX6_become_1 ?_
  refine lv_aload_n hx hb dX6_become_4 rfl (lv_at hl 1 rfl) ?_
  refine lv_aload_n hx hb dX6_become_5 rfl (lv_at hl 0 rfl) ?_
  refine lv_acmp_ne (rx := some (oa (13, j1))) (ry := some (oa (13, j0))) (tgt := 10) hx hb dX6_become_6 (by decide) (fun c1 => ?_) (fun c1 => ?_)
  · have e1 : ¬ j1 = j0 := fun q => c1 (by rw [q])
    have hf := (if_neg e1).symm.trans hf
    refine lv_aload_n hx hb dX6_become_10 rfl (lv_at hl 0 rfl) ?_
    refine lv_aload_n hx hb dX6_become_11 rfl (lv_at hl 1 rfl) ?_
    refine gf_X6_9 C hW hj1 dX6_become_12 ?_
    refine pf_X6_9 C hW hj0 dX6_become_15 (fun H locs hW => ?_)
    refine lv_aload_n hx hb dX6_become_18 rfl (lv_at hl 0 rfl) ?_
    refine lv_aload_n hx hb dX6_become_19 rfl (lv_at hl 1 rfl) ?_
    refine gf_X6_46 C hW hj1 dX6_become_20 ?_
    refine pf_X6_46 C hW hj0 dX6_become_23 (fun H locs hW => ?_)
    obtain ⟨μ2, hm2, hf⟩ := bd_of hf
    rw [Option.some.inj hm2] at hW
    refine lv_aload_n hx hb dX6_become_26 rfl (lv_at hl 0 rfl) ?_
    refine lv_aload_n hx hb dX6_become_27 rfl (lv_at hl 1 rfl) ?_
    refine gf_X6_15 C hW hj1 dX6_become_28 ?_
    refine pf_X6_15 C hW hj0 dX6_become_31 (fun H locs hW => ?_)
    refine lv_aload_n hx hb dX6_become_34 rfl (lv_at hl 0 rfl) ?_
    refine lv_aload_n hx hb dX6_become_35 rfl (lv_at hl 1 rfl) ?_
    refine gf_X6_49 C hW hj1 dX6_become_36 ?_
    refine pf_X6_49 C hW hj0 dX6_become_39 (fun H locs hW => ?_)
    obtain ⟨μ3, hm3, hf⟩ := bd_of hf
    rw [Option.some.inj hm3] at hW
    refine lv_aload_n hx hb dX6_become_42 rfl (lv_at hl 0 rfl) ?_
    refine lv_aload_n hx hb dX6_become_43 rfl (lv_at hl 1 rfl) ?_
    refine gf_X6_52 C hW hj1 dX6_become_44 ?_
    refine pf_X6_52 C hW hj0 dX6_become_47 (fun H locs hW => ?_)
    refine lv_aload_n hx hb dX6_become_50 rfl (lv_at hl 0 rfl) ?_
    refine lv_aload_n hx hb dX6_become_51 rfl (lv_at hl 1 rfl) ?_
    refine gf_X6_18 C hW hj1 dX6_become_52 ?_
    refine pf_X6_18 C hW hj0 dX6_become_55 (fun H locs hW => ?_)
    obtain ⟨μ4, hm4, hf⟩ := bd_of hf
    rw [Option.some.inj hm4] at hW
    refine lv_aload_n hx hb dX6_become_58 rfl (lv_at hl 0 rfl) ?_
    refine lv_aload_n hx hb dX6_become_59 rfl (lv_at hl 1 rfl) ?_
    refine gf_X6_55 C hW hj1 dX6_become_60 ?_
    refine pf_X6_55 C hW hj0 dX6_become_63 (fun H locs hW => ?_)
    refine lv_aload_n hx hb dX6_become_66 rfl (lv_at hl 0 rfl) ?_
    refine lv_aload_n hx hb dX6_become_67 rfl (lv_at hl 1 rfl) ?_
    refine gf_X6_58 C hW hj1 dX6_become_68 ?_
    obtain ⟨hz5, hf⟩ := cb_of hf
    refine pf_X6_58 C hW hj0 (by rcases hz5 with h | h <;> rw [h] <;> rfl) (by rcases hz5 with h | h <;> rw [h] <;> rfl) dX6_become_71 (fun H locs hW => ?_)
    obtain ⟨μ6, hm6, hf⟩ := bd_of hf
    rw [Option.some.inj hm6] at hW
    refine lv_aload_n hx hb dX6_become_74 rfl (lv_at hl 0 rfl) ?_
    refine lv_aload_n hx hb dX6_become_75 rfl (lv_at hl 1 rfl) ?_
    by_cases q7 : μ6 (13, j1) 8 = 0
    · have hf := (if_pos q7).symm.trans hf
      refine gn_X6_62 C hW hj1 q7 dX6_become_76 ?_
      refine pr_X6_62_null C hW hj0 dX6_become_79 (fun H locs hW => ?_)
      refine lv_aload_n hx hb dX6_become_82 rfl (lv_at hl 0 rfl) ?_
      refine lv_aload_n hx hb dX6_become_83 rfl (lv_at hl 1 rfl) ?_
      refine gf_X6_66 C hW hj1 dX6_become_84 ?_
      refine pf_X6_66 C hW hj0 dX6_become_87 (fun H locs hW => ?_)
      obtain ⟨μ9, hm9, hf⟩ := bd_of hf
      rw [Option.some.inj hm9] at hW
      refine lv_aload_n hx hb dX6_become_90 rfl (lv_at hl 0 rfl) ?_
      refine lv_aload_n hx hb dX6_become_91 rfl (lv_at hl 1 rfl) ?_
      refine gf_X6_69 C hW hj1 dX6_become_92 ?_
      refine pf_X6_69 C hW hj0 dX6_become_95 (fun H locs hW => ?_)
      refine lv_aload_n hx hb dX6_become_98 rfl (lv_at hl 0 rfl) ?_
      refine gf_X6_26 C hW hj0 dX6_become_99 ?_
      refine lv_aload_n hx hb dX6_become_102 rfl (lv_at hl 1 rfl) ?_
      refine gf_X6_26 C hW hj1 dX6_become_103 ?_
      refine lv_aload_n hx hb dX6_become_106 rfl (lv_at hl 0 rfl) ?_
      refine gf_X6_46 C hW hj0 dX6_become_107 ?_
      obtain ⟨x110, h110, hf⟩ := bd_of hf
      obtain ⟨kc10, ks10, hf, ek10, es10⟩ := addc_of hf
      have hcs := cs_add hcs ek10 es10
      refine r_callA (k := ((11, 15 + 5 * j0 + 0) : Ky)) C hW hl lk_X6_72 (cA_X1_become hwf (cex_st hj0 (by decide)) (cex_st hj1 (by decide)) h110) ⟨Nat.le_of_ble_eq_true rfl, Nat.le_of_ble_eq_true rfl⟩ rfl (faB_11 (cex_st hj0 (by decide))) rfl (As := [.ref (oa (11, 15 + 5 * j1 + 0)), .int ((mst μ9 (13, j0) 15 (μ9 (13, j1) 15)) (13, j0) 1)]) (rest := []) rfl rfl (Nat.le_of_ble_eq_true rfl) dX6_become_110 (ca_le hcs) (fun aa H locs hW => ?_)
      show W p l e (rma 4 126 KC KS) s m args below meth c H locs (0 + x110.2.1) (0 + x110.2.2) Q (F0 m 113 ls [])
      refine lv_aload_n hx hb dX6_become_113 rfl (lv_at hl 0 rfl) ?_
      refine gf_X6_30 C hW hj0 dX6_become_114 ?_
      refine lv_aload_n hx hb dX6_become_117 rfl (lv_at hl 1 rfl) ?_
      refine gf_X6_30 C hW hj1 dX6_become_118 ?_
      refine lv_aload_n hx hb dX6_become_121 rfl (lv_at hl 0 rfl) ?_
      refine gf_X6_46 C hW hj0 dX6_become_122 ?_
      obtain ⟨x125, h125, hf⟩ := bd_of hf
      obtain ⟨kc11, ks11, hf, ek11, es11⟩ := addc_of hf
      have hcs := cs_add hcs ek11 es11
      refine r_callA (k := ((11, 15 + 5 * j0 + 1) : Ky)) C hW hl lk_X6_72 (cA_X1_become hwf (cex_st hj0 (by decide)) (cex_st hj1 (by decide)) h125) ⟨Nat.le_of_ble_eq_true rfl, Nat.le_of_ble_eq_true rfl⟩ rfl (faB_11 (cex_st hj0 (by decide))) rfl (As := [.ref (oa (11, 15 + 5 * j1 + 1)), .int (x110.1.2.2 (13, j0) 1)]) (rest := []) rfl rfl (Nat.le_of_ble_eq_true rfl) dX6_become_125 (ca_le hcs) (fun aa H locs hW => ?_)
      show W p l e (rma 4 126 KC KS) s m args below meth c H locs ((0 + x110.2.1) + x125.2.1) ((0 + x110.2.2) + x125.2.2) Q (F0 m 128 ls [])
      refine lv_aload_n hx hb dX6_become_128 rfl (lv_at hl 0 rfl) ?_
      refine gf_X6_33 C hW hj0 dX6_become_129 ?_
      refine lv_aload_n hx hb dX6_become_132 rfl (lv_at hl 1 rfl) ?_
      refine gf_X6_33 C hW hj1 dX6_become_133 ?_
      refine lv_aload_n hx hb dX6_become_136 rfl (lv_at hl 0 rfl) ?_
      refine gf_X6_15 C hW hj0 dX6_become_137 ?_
      obtain ⟨x140, h140, hf⟩ := bd_of hf
      obtain ⟨kc12, ks12, hf, ek12, es12⟩ := addc_of hf
      have hcs := cs_add hcs ek12 es12
      refine r_callA (k := ((11, 15 + 5 * j0 + 2) : Ky)) C hW hl lk_X6_72 (cA_X1_become hwf (cex_st hj0 (by decide)) (cex_st hj1 (by decide)) h140) ⟨Nat.le_of_ble_eq_true rfl, Nat.le_of_ble_eq_true rfl⟩ rfl (faB_11 (cex_st hj0 (by decide))) rfl (As := [.ref (oa (11, 15 + 5 * j1 + 2)), .int (x125.1.2.2 (13, j0) 2)]) (rest := []) rfl rfl (Nat.le_of_ble_eq_true rfl) dX6_become_140 (ca_le hcs) (fun aa H locs hW => ?_)
      show W p l e (rma 4 126 KC KS) s m args below meth c H locs (((0 + x110.2.1) + x125.2.1) + x140.2.1) (((0 + x110.2.2) + x125.2.2) + x140.2.2) Q (F0 m 143 ls [])
      refine lv_aload_n hx hb dX6_become_143 rfl (lv_at hl 0 rfl) ?_
      refine gf_X6_36 C hW hj0 dX6_become_144 ?_
      refine lv_aload_n hx hb dX6_become_147 rfl (lv_at hl 1 rfl) ?_
      refine gf_X6_36 C hW hj1 dX6_become_148 ?_
      refine lv_aload_n hx hb dX6_become_151 rfl (lv_at hl 0 rfl) ?_
      refine gf_X6_46 C hW hj0 dX6_become_152 ?_
      refine lv_aload_n hx hb dX6_become_155 rfl (lv_at hl 0 rfl) ?_
      refine gf_X6_15 C hW hj0 dX6_become_156 ?_
      refine lv_imul hx hb dX6_become_159 ?_
      obtain ⟨x160, h160, hf⟩ := bd_of hf
      obtain ⟨kc13, ks13, hf, ek13, es13⟩ := addc_of hf
      have hcs := cs_add hcs ek13 es13
      refine r_callA (k := ((11, 15 + 5 * j0 + 3) : Ky)) C hW hl lk_X6_72 (cA_X1_become hwf (cex_st hj0 (by decide)) (cex_st hj1 (by decide)) h160) ⟨Nat.le_of_ble_eq_true rfl, Nat.le_of_ble_eq_true rfl⟩ rfl (faB_11 (cex_st hj0 (by decide))) rfl (As := [.ref (oa (11, 15 + 5 * j1 + 3)), .int ((x140.1.2.2 (13, j0) 1) * (x140.1.2.2 (13, j0) 2))]) (rest := []) rfl rfl (Nat.le_of_ble_eq_true rfl) dX6_become_160 (ca_le hcs) (fun aa H locs hW => ?_)
      show W p l e (rma 4 126 KC KS) s m args below meth c H locs ((((0 + x110.2.1) + x125.2.1) + x140.2.1) + x160.2.1) ((((0 + x110.2.2) + x125.2.2) + x140.2.2) + x160.2.2) Q (F0 m 163 ls [])
      refine lv_aload_n hx hb dX6_become_163 rfl (lv_at hl 0 rfl) ?_
      refine gf_X6_39 C hW hj0 dX6_become_164 ?_
      refine lv_aload_n hx hb dX6_become_167 rfl (lv_at hl 1 rfl) ?_
      refine gf_X6_39 C hW hj1 dX6_become_168 ?_
      refine lv_sipush (v := 300) hx hb dX6_become_171 (by decide) ?_
      obtain ⟨x174, h174, hf⟩ := bd_of hf
      obtain ⟨kc14, ks14, hf, ek14, es14⟩ := addc_of hf
      have hcs := cs_add hcs ek14 es14
      refine r_callA (k := ((11, 15 + 5 * j0 + 4) : Ky)) C hW hl lk_X6_72 (cA_X1_become hwf (cex_st hj0 (by decide)) (cex_st hj1 (by decide)) h174) ⟨Nat.le_of_ble_eq_true rfl, Nat.le_of_ble_eq_true rfl⟩ rfl (faB_11 (cex_st hj0 (by decide))) rfl (As := [.ref (oa (11, 15 + 5 * j1 + 4)), .int (300 : Int32)]) (rest := []) rfl rfl (Nat.le_of_ble_eq_true rfl) dX6_become_174 (ca_le hcs) (fun aa H locs hW => ?_)
      show W p l e (rma 4 126 KC KS) s m args below meth c H locs (((((0 + x110.2.1) + x125.2.1) + x140.2.1) + x160.2.1) + x174.2.1) (((((0 + x110.2.2) + x125.2.2) + x140.2.2) + x160.2.2) + x174.2.2) Q (F0 m 177 ls [])
      obtain ⟨eo, ek1, ek2⟩ := retA hf
      subst eo
      rw [hQ]
      exact r_vretA C hr hk hW (cs_end hcs).1 (cs_end hcs).2 dX6_become_177
    · have hf := (if_neg q7).symm.trans hf
      refine gf_X6_62 C hW hj1 q7 dX6_become_76 ?_
      obtain ⟨hq7, hf⟩ := ce_of hf
      obtain ⟨hb15, hf⟩ := ce_of hf
      refine pr_X6_62_law C hW hj0 hb15 dX6_become_79 (fun H locs hW => ?_)
      refine lv_aload_n hx hb dX6_become_82 rfl (lv_at hl 0 rfl) ?_
      refine lv_aload_n hx hb dX6_become_83 rfl (lv_at hl 1 rfl) ?_
      refine gf_X6_66 C hW hj1 dX6_become_84 ?_
      refine pf_X6_66 C hW hj0 dX6_become_87 (fun H locs hW => ?_)
      obtain ⟨μ16, hm16, hf⟩ := bd_of hf
      rw [Option.some.inj hm16] at hW
      refine lv_aload_n hx hb dX6_become_90 rfl (lv_at hl 0 rfl) ?_
      refine lv_aload_n hx hb dX6_become_91 rfl (lv_at hl 1 rfl) ?_
      refine gf_X6_69 C hW hj1 dX6_become_92 ?_
      refine pf_X6_69 C hW hj0 dX6_become_95 (fun H locs hW => ?_)
      refine lv_aload_n hx hb dX6_become_98 rfl (lv_at hl 0 rfl) ?_
      refine gf_X6_26 C hW hj0 dX6_become_99 ?_
      refine lv_aload_n hx hb dX6_become_102 rfl (lv_at hl 1 rfl) ?_
      refine gf_X6_26 C hW hj1 dX6_become_103 ?_
      refine lv_aload_n hx hb dX6_become_106 rfl (lv_at hl 0 rfl) ?_
      refine gf_X6_46 C hW hj0 dX6_become_107 ?_
      obtain ⟨x110, h110, hf⟩ := bd_of hf
      obtain ⟨kc17, ks17, hf, ek17, es17⟩ := addc_of hf
      have hcs := cs_add hcs ek17 es17
      refine r_callA (k := ((11, 15 + 5 * j0 + 0) : Ky)) C hW hl lk_X6_72 (cA_X1_become hwf (cex_st hj0 (by decide)) (cex_st hj1 (by decide)) h110) ⟨Nat.le_of_ble_eq_true rfl, Nat.le_of_ble_eq_true rfl⟩ rfl (faB_11 (cex_st hj0 (by decide))) rfl (As := [.ref (oa (11, 15 + 5 * j1 + 0)), .int ((mst μ16 (13, j0) 15 (μ16 (13, j1) 15)) (13, j0) 1)]) (rest := []) rfl rfl (Nat.le_of_ble_eq_true rfl) dX6_become_110 (ca_le hcs) (fun aa H locs hW => ?_)
      show W p l e (rma 4 126 KC KS) s m args below meth c H locs (0 + x110.2.1) (0 + x110.2.2) Q (F0 m 113 ls [])
      refine lv_aload_n hx hb dX6_become_113 rfl (lv_at hl 0 rfl) ?_
      refine gf_X6_30 C hW hj0 dX6_become_114 ?_
      refine lv_aload_n hx hb dX6_become_117 rfl (lv_at hl 1 rfl) ?_
      refine gf_X6_30 C hW hj1 dX6_become_118 ?_
      refine lv_aload_n hx hb dX6_become_121 rfl (lv_at hl 0 rfl) ?_
      refine gf_X6_46 C hW hj0 dX6_become_122 ?_
      obtain ⟨x125, h125, hf⟩ := bd_of hf
      obtain ⟨kc18, ks18, hf, ek18, es18⟩ := addc_of hf
      have hcs := cs_add hcs ek18 es18
      refine r_callA (k := ((11, 15 + 5 * j0 + 1) : Ky)) C hW hl lk_X6_72 (cA_X1_become hwf (cex_st hj0 (by decide)) (cex_st hj1 (by decide)) h125) ⟨Nat.le_of_ble_eq_true rfl, Nat.le_of_ble_eq_true rfl⟩ rfl (faB_11 (cex_st hj0 (by decide))) rfl (As := [.ref (oa (11, 15 + 5 * j1 + 1)), .int (x110.1.2.2 (13, j0) 1)]) (rest := []) rfl rfl (Nat.le_of_ble_eq_true rfl) dX6_become_125 (ca_le hcs) (fun aa H locs hW => ?_)
      show W p l e (rma 4 126 KC KS) s m args below meth c H locs ((0 + x110.2.1) + x125.2.1) ((0 + x110.2.2) + x125.2.2) Q (F0 m 128 ls [])
      refine lv_aload_n hx hb dX6_become_128 rfl (lv_at hl 0 rfl) ?_
      refine gf_X6_33 C hW hj0 dX6_become_129 ?_
      refine lv_aload_n hx hb dX6_become_132 rfl (lv_at hl 1 rfl) ?_
      refine gf_X6_33 C hW hj1 dX6_become_133 ?_
      refine lv_aload_n hx hb dX6_become_136 rfl (lv_at hl 0 rfl) ?_
      refine gf_X6_15 C hW hj0 dX6_become_137 ?_
      obtain ⟨x140, h140, hf⟩ := bd_of hf
      obtain ⟨kc19, ks19, hf, ek19, es19⟩ := addc_of hf
      have hcs := cs_add hcs ek19 es19
      refine r_callA (k := ((11, 15 + 5 * j0 + 2) : Ky)) C hW hl lk_X6_72 (cA_X1_become hwf (cex_st hj0 (by decide)) (cex_st hj1 (by decide)) h140) ⟨Nat.le_of_ble_eq_true rfl, Nat.le_of_ble_eq_true rfl⟩ rfl (faB_11 (cex_st hj0 (by decide))) rfl (As := [.ref (oa (11, 15 + 5 * j1 + 2)), .int (x125.1.2.2 (13, j0) 2)]) (rest := []) rfl rfl (Nat.le_of_ble_eq_true rfl) dX6_become_140 (ca_le hcs) (fun aa H locs hW => ?_)
      show W p l e (rma 4 126 KC KS) s m args below meth c H locs (((0 + x110.2.1) + x125.2.1) + x140.2.1) (((0 + x110.2.2) + x125.2.2) + x140.2.2) Q (F0 m 143 ls [])
      refine lv_aload_n hx hb dX6_become_143 rfl (lv_at hl 0 rfl) ?_
      refine gf_X6_36 C hW hj0 dX6_become_144 ?_
      refine lv_aload_n hx hb dX6_become_147 rfl (lv_at hl 1 rfl) ?_
      refine gf_X6_36 C hW hj1 dX6_become_148 ?_
      refine lv_aload_n hx hb dX6_become_151 rfl (lv_at hl 0 rfl) ?_
      refine gf_X6_46 C hW hj0 dX6_become_152 ?_
      refine lv_aload_n hx hb dX6_become_155 rfl (lv_at hl 0 rfl) ?_
      refine gf_X6_15 C hW hj0 dX6_become_156 ?_
      refine lv_imul hx hb dX6_become_159 ?_
      obtain ⟨x160, h160, hf⟩ := bd_of hf
      obtain ⟨kc20, ks20, hf, ek20, es20⟩ := addc_of hf
      have hcs := cs_add hcs ek20 es20
      refine r_callA (k := ((11, 15 + 5 * j0 + 3) : Ky)) C hW hl lk_X6_72 (cA_X1_become hwf (cex_st hj0 (by decide)) (cex_st hj1 (by decide)) h160) ⟨Nat.le_of_ble_eq_true rfl, Nat.le_of_ble_eq_true rfl⟩ rfl (faB_11 (cex_st hj0 (by decide))) rfl (As := [.ref (oa (11, 15 + 5 * j1 + 3)), .int ((x140.1.2.2 (13, j0) 1) * (x140.1.2.2 (13, j0) 2))]) (rest := []) rfl rfl (Nat.le_of_ble_eq_true rfl) dX6_become_160 (ca_le hcs) (fun aa H locs hW => ?_)
      show W p l e (rma 4 126 KC KS) s m args below meth c H locs ((((0 + x110.2.1) + x125.2.1) + x140.2.1) + x160.2.1) ((((0 + x110.2.2) + x125.2.2) + x140.2.2) + x160.2.2) Q (F0 m 163 ls [])
      refine lv_aload_n hx hb dX6_become_163 rfl (lv_at hl 0 rfl) ?_
      refine gf_X6_39 C hW hj0 dX6_become_164 ?_
      refine lv_aload_n hx hb dX6_become_167 rfl (lv_at hl 1 rfl) ?_
      refine gf_X6_39 C hW hj1 dX6_become_168 ?_
      refine lv_sipush (v := 300) hx hb dX6_become_171 (by decide) ?_
      obtain ⟨x174, h174, hf⟩ := bd_of hf
      obtain ⟨kc21, ks21, hf, ek21, es21⟩ := addc_of hf
      have hcs := cs_add hcs ek21 es21
      refine r_callA (k := ((11, 15 + 5 * j0 + 4) : Ky)) C hW hl lk_X6_72 (cA_X1_become hwf (cex_st hj0 (by decide)) (cex_st hj1 (by decide)) h174) ⟨Nat.le_of_ble_eq_true rfl, Nat.le_of_ble_eq_true rfl⟩ rfl (faB_11 (cex_st hj0 (by decide))) rfl (As := [.ref (oa (11, 15 + 5 * j1 + 4)), .int (300 : Int32)]) (rest := []) rfl rfl (Nat.le_of_ble_eq_true rfl) dX6_become_174 (ca_le hcs) (fun aa H locs hW => ?_)
      show W p l e (rma 4 126 KC KS) s m args below meth c H locs (((((0 + x110.2.1) + x125.2.1) + x140.2.1) + x160.2.1) + x174.2.1) (((((0 + x110.2.2) + x125.2.2) + x140.2.2) + x160.2.2) + x174.2.2) Q (F0 m 177 ls [])
      obtain ⟨eo, ek1, ek2⟩ := retA hf
      subst eo
      rw [hQ]
      exact r_vretA C hr hk hW (cs_end hcs).1 (cs_end hcs).2 dX6_become_177
  · have e1 := st_inj hW hj1 hj0 (Option.some.inj c1)
    have hf := (if_pos e1).symm.trans hf
    obtain ⟨eo, ek1, ek2⟩ := retA hf
    subst eo
    rw [hQ]
    exact r_vretA C hr hk hW (cs_end hcs).1 (cs_end hcs).2 dX6_become_9
set_option maxHeartbeats 4000000 in
set_option maxRecDepth 100000 in
theorem cA_X6_join {l : Launch} {D : va_G} {tc : Nat → ClassId} {ro : Ro} {oa : Ky → Nat} {sh : Sh} {lm : Nat → Nat} {j0 : Nat} {μ : Mm} {v1 : Int32} {res : Int32 × (Nat → Nat) × Mm} {KC KS : Nat} (hwf : WfS sh) (hj0 : sh 2 j0 = 1) (hf : f_X6_joinA sh lm j0 μ v1 = some (res, KC, KS)) : CtA l D tc ro oa yX6_join cX6_join 3 none (rma 3 103 KC KS) [.ref (oa (13, j0)), .int v1] sh lm μ none res.2.1 res.2.2 := by
  refine CtA.of (by decide) (Nat.le_of_ble_eq_true rfl) (fun aa p e s m args below meth c A C hr hk hW ls hl => ?_)
  have hx := C.1.1
  have hb := C.1.2.1
  obtain ⟨Q, hQ⟩ : ∃ Q, Q = MQ below (Cta D tc oa none sh res.2.1 res.2.2 A) args s (rma 3 103 KC KS).cells (rma 3 103 KC KS).slots A := ⟨_, rfl⟩
  rw [← hQ]
  have hl : lv_has ls 3 [(0, .ref (oa (13, j0))), (1, .int v1)] := hl
  have hcs : 0 + KC ≤ KC ∧ 0 + KS ≤ KS := ⟨by omega, by omega⟩
  unfold f_X6_joinA at hf
  refine lv_iconst (v := 0) hx hb dX6_join_0 (by decide) ?_
  refine lv_istore_n (lv' := [(2, .int (0 : Int32)), (0, .ref (oa (13, j0))), (1, .int v1)]) hx hb dX6_join_1 rfl hl (by decide) rfl (fun ls hl => ?_)
  have L2 : ∀ (lm : Nat → Nat) (aa : Nat → Nat) (μ : Mm) (v2 : Int32) (cells slots kc ks : Nat) (H : Heap) (locs : List Loc) (ls : Array Slot), WhC (fun z : (Nat → Nat) × Mm × Int32 => f_X6_joinA_L2 sh z.1 j0 v1 z.2.1 z.2.2) (lm, μ, v2) = some (res, kc, ks) → cells + kc ≤ KC ∧ slots + ks ≤ KS → Wd D (faB oa aa sh) (feB tc oa aa sh lm) A s.heap μ H locs → lv_has ls 3 [(0, .ref (oa (13, j0))), (1, .int v1), (2, .int v2)] → W p l e (rma 3 103 KC KS) s m args below meth c H locs cells slots Q (F0 m 2 ls []) := by
    intro lm aa μ v2 cells slots kc ks H locs ls hf hcs hW hl
    refine WhC_rule hf (fun (z : (Nat → Nat) × Mm × Int32) (kc ks : Nat) => ∀ (aa : Nat → Nat) (cells slots : Nat) (H : Heap) (locs : List Loc) (ls : Array Slot), cells + kc ≤ KC ∧ slots + ks ≤ KS → Wd D (faB oa aa sh) (feB tc oa aa sh z.1) A s.heap z.2.1 H locs → lv_has ls 3 [(0, .ref (oa (13, j0))), (1, .int v1), (2, .int z.2.2)] → W p l e (rma 3 103 KC KS) s m args below meth c H locs cells slots Q (F0 m 2 ls [])) (fun z o1 kc ks K1 K2 hf Kl1 Kr1 => ?_) _ _ _ _ _ _ hcs hW hl
    obtain ⟨lm, μ, v2⟩ := z
    intro aa cells slots H locs ls hcs hW hl
    have hf : f_X6_joinA_L2 sh lm j0 v1 μ v2 = some (o1, kc, ks) := hf
    unfold f_X6_joinA_L2 at hf
    have hW : Wd D (faB oa aa sh) (feB tc oa aa sh lm) A s.heap μ H locs := hW
    have hl : lv_has ls 3 [(0, .ref (oa (13, j0))), (1, .int v1), (2, .int v2)] := hl
    refine lv_iload_n hx hb dX6_join_2 rfl (lv_at hl 2 rfl) ?_
    refine lv_aload_n hx hb dX6_join_3 rfl (lv_at hl 0 rfl) ?_
    refine gf_X6_46 C hW hj0 dX6_join_4 ?_
    refine lv_icmp_ge (tgt := 37) hx hb dX6_join_7 (by decide) (fun c1 => ?_) (fun c1 => ?_)
    · have hf := (if_pos c1).symm.trans hf
      obtain ⟨x9005, hf, hx9005⟩ := mapc_of hf
      obtain ⟨e9005, hK1, hK2⟩ := Kr1 _ hx9005
      have e9005 := e9005.symm
      subst e9005
      have hcs := cs_out hcs hK1 hK2
      refine lv_aload_n hx hb dX6_join_37 rfl (lv_at hl 0 rfl) ?_
      refine gf_X6_26 C hW hj0 dX6_join_38 ?_
      refine lv_aload_n hx hb dX6_join_41 rfl (lv_at hl 0 rfl) ?_
      refine gf_X6_46 C hW hj0 dX6_join_42 ?_
      refine lv_iconst (v := 1) hx hb dX6_join_45 (by decide) ?_
      obtain ⟨x46, h46, hf⟩ := bd_of hf
      refine r_callV (k := ((11, 15 + 5 * j0 + 0) : Ky)) C hW hl lk_X6_42 (c_X1_put hwf (cex_st hj0 (by decide)) h46) ⟨rfl, rfl⟩ ⟨Nat.le_of_ble_eq_true rfl, Nat.le_of_ble_eq_true rfl⟩ rfl (faB_11 (cex_st hj0 (by decide))) rfl (As := [.int (μ (13, j0) 1), .int (1 : Int32)]) (rest := []) rfl rfl (Nat.le_of_ble_eq_true rfl) dX6_join_46 (ca_le hcs) (fun H locs hW => ?_)
      show W p l e (rma 3 103 KC KS) s m args below meth c H locs cells slots Q (F0 m 49 ls [])
      refine lv_aload_n hx hb dX6_join_49 rfl (lv_at hl 0 rfl) ?_
      refine gf_X6_30 C hW hj0 dX6_join_50 ?_
      refine lv_aload_n hx hb dX6_join_53 rfl (lv_at hl 0 rfl) ?_
      refine gf_X6_46 C hW hj0 dX6_join_54 ?_
      refine lv_iconst (v := 0) hx hb dX6_join_57 (by decide) ?_
      obtain ⟨x58, h58, hf⟩ := bd_of hf
      refine r_callV (k := ((11, 15 + 5 * j0 + 1) : Ky)) C hW hl lk_X6_42 (c_X1_put hwf (cex_st hj0 (by decide)) h58) ⟨rfl, rfl⟩ ⟨Nat.le_of_ble_eq_true rfl, Nat.le_of_ble_eq_true rfl⟩ rfl (faB_11 (cex_st hj0 (by decide))) rfl (As := [.int (x46 (13, j0) 1), .int (0 : Int32)]) (rest := []) rfl rfl (Nat.le_of_ble_eq_true rfl) dX6_join_58 (ca_le hcs) (fun H locs hW => ?_)
      show W p l e (rma 3 103 KC KS) s m args below meth c H locs cells slots Q (F0 m 61 ls [])
      refine lv_aload_n hx hb dX6_join_61 rfl (lv_at hl 0 rfl) ?_
      refine lv_dup hx hb dX6_join_62 rfl ?_
      refine gf_X6_46 C hW hj0 dX6_join_63 ?_
      refine lv_iconst (v := 1) hx hb dX6_join_66 (by decide) ?_
      refine lv_iadd hx hb dX6_join_67 ?_
      refine pf_X6_46 C hW hj0 dX6_join_68 (fun H locs hW => ?_)
      refine lv_aload_n hx hb dX6_join_71 rfl (lv_at hl 0 rfl) ?_
      refine lv_dup hx hb dX6_join_72 rfl ?_
      refine gf_X6_15 C hW hj0 dX6_join_73 ?_
      refine lv_aload_n hx hb dX6_join_76 rfl (lv_at hl 0 rfl) ?_
      refine gf_X6_9 C hW hj0 dX6_join_77 ?_
      refine lv_imul hx hb dX6_join_80 ?_
      refine pf_X6_15 C hW hj0 dX6_join_81 (fun H locs hW => ?_)
      obtain ⟨μ2, hm2, hf⟩ := bd_of hf
      rw [Option.some.inj hm2] at hW
      refine lv_aload_n hx hb dX6_join_84 rfl (lv_at hl 0 rfl) ?_
      refine lv_aload_n hx hb dX6_join_85 rfl (lv_at hl 0 rfl) ?_
      refine gf_X6_49 C hW hj0 dX6_join_86 ?_
      refine lv_aload_n hx hb dX6_join_89 rfl (lv_at hl 0 rfl) ?_
      refine gf_X6_9 C hW hj0 dX6_join_90 ?_
      refine lv_imul hx hb dX6_join_93 ?_
      refine lv_iload_n hx hb dX6_join_94 rfl (lv_at hl 1 rfl) ?_
      refine lv_iadd hx hb dX6_join_95 ?_
      refine pf_X6_49 C hW hj0 dX6_join_96 (fun H locs hW => ?_)
      refine lv_aload_n hx hb dX6_join_99 rfl (lv_at hl 0 rfl) ?_
      refine gf_X6_33 C hW hj0 dX6_join_100 ?_
      refine lv_aload_n hx hb dX6_join_103 rfl (lv_at hl 0 rfl) ?_
      refine gf_X6_15 C hW hj0 dX6_join_104 ?_
      obtain ⟨x107, h107, hf⟩ := bd_of hf
      obtain ⟨kc3, ks3, hf, ek3, es3⟩ := addc_of hf
      have hcs := cs_add hcs ek3 es3
      refine r_callA (k := ((11, 15 + 5 * j0 + 2) : Ky)) C hW hl lk_X6_92 (cA_X1_grow hwf (cex_st hj0 (by decide)) h107) ⟨Nat.le_of_ble_eq_true rfl, Nat.le_of_ble_eq_true rfl⟩ rfl (faB_11 (cex_st hj0 (by decide))) rfl (As := [.int ((mst μ2 (13, j0) 3 (((μ2 (13, j0) 3) * (μ2 (13, j0) 0)) + v1)) (13, j0) 2)]) (rest := []) rfl rfl (Nat.le_of_ble_eq_true rfl) dX6_join_107 (ca_le hcs) (fun aa H locs hW => ?_)
      show W p l e (rma 3 103 KC KS) s m args below meth c H locs (cells + x107.2.1) (slots + x107.2.2) Q (F0 m 110 ls [])
      refine lv_aload_n hx hb dX6_join_110 rfl (lv_at hl 0 rfl) ?_
      refine gf_X6_33 C hW hj0 dX6_join_111 ?_
      refine lv_iconst (v := 1) hx hb dX6_join_114 (by decide) ?_
      refine lv_aload_n hx hb dX6_join_115 rfl (lv_at hl 0 rfl) ?_
      refine gf_X6_15 C hW hj0 dX6_join_116 ?_
      obtain ⟨x119, h119, hf⟩ := bd_of hf
      refine r_callV (k := ((11, 15 + 5 * j0 + 2) : Ky)) C hW hl lk_X6_95 (c_X1_fill hwf (cex_st hj0 (by decide)) h119) ⟨rfl, rfl⟩ ⟨Nat.le_of_ble_eq_true rfl, Nat.le_of_ble_eq_true rfl⟩ rfl (faB_11 (cex_st hj0 (by decide))) rfl (As := [.int (1 : Int32), .int (x107.1.2.2 (13, j0) 2)]) (rest := []) rfl rfl (Nat.le_of_ble_eq_true rfl) dX6_join_119 (ca_le hcs) (fun H locs hW => ?_)
      show W p l e (rma 3 103 KC KS) s m args below meth c H locs (cells + x107.2.1) (slots + x107.2.2) Q (F0 m 122 ls [])
      refine lv_aload_n hx hb dX6_join_122 rfl (lv_at hl 0 rfl) ?_
      refine gf_X6_36 C hW hj0 dX6_join_123 ?_
      refine lv_aload_n hx hb dX6_join_126 rfl (lv_at hl 0 rfl) ?_
      refine gf_X6_46 C hW hj0 dX6_join_127 ?_
      refine lv_aload_n hx hb dX6_join_130 rfl (lv_at hl 0 rfl) ?_
      refine gf_X6_15 C hW hj0 dX6_join_131 ?_
      refine lv_imul hx hb dX6_join_134 ?_
      obtain ⟨x135, h135, hf⟩ := bd_of hf
      obtain ⟨kc4, ks4, hf, ek4, es4⟩ := addc_of hf
      have hcs := cs_add hcs ek4 es4
      refine r_callA (k := ((11, 15 + 5 * j0 + 3) : Ky)) C hW hl lk_X6_92 (cA_X1_grow hwf (cex_st hj0 (by decide)) h135) ⟨Nat.le_of_ble_eq_true rfl, Nat.le_of_ble_eq_true rfl⟩ rfl (faB_11 (cex_st hj0 (by decide))) rfl (As := [.int ((x119 (13, j0) 1) * (x119 (13, j0) 2))]) (rest := []) rfl rfl (Nat.le_of_ble_eq_true rfl) dX6_join_135 (ca_le hcs) (fun aa H locs hW => ?_)
      show W p l e (rma 3 103 KC KS) s m args below meth c H locs ((cells + x107.2.1) + x135.2.1) ((slots + x107.2.2) + x135.2.2) Q (F0 m 138 ls [])
      refine lv_aload_n hx hb dX6_join_138 rfl (lv_at hl 0 rfl) ?_
      refine gf_X6_36 C hW hj0 dX6_join_139 ?_
      refine lv_iconst (v := 0) hx hb dX6_join_142 (by decide) ?_
      refine lv_aload_n hx hb dX6_join_143 rfl (lv_at hl 0 rfl) ?_
      refine gf_X6_46 C hW hj0 dX6_join_144 ?_
      refine lv_aload_n hx hb dX6_join_147 rfl (lv_at hl 0 rfl) ?_
      refine gf_X6_15 C hW hj0 dX6_join_148 ?_
      refine lv_imul hx hb dX6_join_151 ?_
      obtain ⟨x152, h152, hf⟩ := bd_of hf
      refine r_callV (k := ((11, 15 + 5 * j0 + 3) : Ky)) C hW hl lk_X6_95 (c_X1_fill hwf (cex_st hj0 (by decide)) h152) ⟨rfl, rfl⟩ ⟨Nat.le_of_ble_eq_true rfl, Nat.le_of_ble_eq_true rfl⟩ rfl (faB_11 (cex_st hj0 (by decide))) rfl (As := [.int (0 : Int32), .int ((x135.1.2.2 (13, j0) 1) * (x135.1.2.2 (13, j0) 2))]) (rest := []) rfl rfl (Nat.le_of_ble_eq_true rfl) dX6_join_152 (ca_le hcs) (fun H locs hW => ?_)
      show W p l e (rma 3 103 KC KS) s m args below meth c H locs ((cells + x107.2.1) + x135.2.1) ((slots + x107.2.2) + x135.2.2) Q (F0 m 155 ls [])
      obtain ⟨eo, ek1, ek2⟩ := retA hf
      subst eo
      rw [hQ]
      exact r_vretA C hr hk hW (cs_end hcs).1 (cs_end hcs).2 dX6_join_155
    · have hf := (if_neg c1).symm.trans hf
      refine lv_aload_n hx hb dX6_join_10 rfl (lv_at hl 0 rfl) ?_
      refine gf_X6_26 C hW hj0 dX6_join_11 ?_
      refine lv_iload_n hx hb dX6_join_14 rfl (lv_at hl 2 rfl) ?_
      refine lv_aload_n hx hb dX6_join_15 rfl (lv_at hl 0 rfl) ?_
      refine gf_X6_26 C hW hj0 dX6_join_16 ?_
      refine lv_iload_n hx hb dX6_join_19 rfl (lv_at hl 2 rfl) ?_
      obtain ⟨x20, h20, hf⟩ := bd_of hf
      refine r_callV (k := ((11, 15 + 5 * j0 + 0) : Ky)) C hW hl lk_X6_80 (c_X1_at hwf (cex_st hj0 (by decide)) h20) ⟨rfl, rfl⟩ ⟨Nat.le_of_ble_eq_true rfl, Nat.le_of_ble_eq_true rfl⟩ rfl (faB_11 (cex_st hj0 (by decide))) rfl (As := [.int v2]) (rest := [.int v2, .ref (oa (11, 15 + 5 * j0 + 0))]) rfl rfl (Nat.le_of_ble_eq_true rfl) dX6_join_20 (ca_le hcs) (fun H locs hW => ?_)
      show W p l e (rma 3 103 KC KS) s m args below meth c H locs cells slots Q (F0 m 23 ls [.int x20, .int v2, .ref (oa (11, 15 + 5 * j0 + 0))])
      refine lv_aload_n hx hb dX6_join_23 rfl (lv_at hl 0 rfl) ?_
      refine gf_X6_9 C hW hj0 dX6_join_24 ?_
      refine lv_imul hx hb dX6_join_27 ?_
      obtain ⟨x28, h28, hf⟩ := bd_of hf
      refine r_callV (k := ((11, 15 + 5 * j0 + 0) : Ky)) C hW hl lk_X6_42 (c_X1_put hwf (cex_st hj0 (by decide)) h28) ⟨rfl, rfl⟩ ⟨Nat.le_of_ble_eq_true rfl, Nat.le_of_ble_eq_true rfl⟩ rfl (faB_11 (cex_st hj0 (by decide))) rfl (As := [.int v2, .int (x20 * (μ (13, j0) 0))]) (rest := []) rfl rfl (Nat.le_of_ble_eq_true rfl) dX6_join_28 (ca_le hcs) (fun H locs hW => ?_)
      show W p l e (rma 3 103 KC KS) s m args below meth c H locs cells slots Q (F0 m 31 ls [])
      refine lv_iinc (v := (v2 + (1 : Int32))) (lv' := [(2, .int (v2 + (1 : Int32))), (0, .ref (oa (13, j0))), (1, .int v1)]) hx hb dX6_join_31 hl (k := 2) rfl rfl (by decide) rfl (fun ls hl => ?_)
      refine lv_goto (tgt := 2) hx hb dX6_join_34 (by decide) ?_
      obtain ⟨eo, ek1, ek2⟩ := retA hf
      subst eo
      exact Kl1 _ rfl _ _ _ _ _ _ (cs_in hcs ek1 ek2) hW (lv_sub hl [1, 2, 0] rfl)
  exact L2 _ _ μ (0 : Int32) _ _ _ _ _ _ _ hf hcs hW (lv_sub hl [1, 2, 0] rfl)
set_option maxHeartbeats 4000000 in
set_option maxRecDepth 100000 in
theorem cA_X6_note {l : Launch} {D : va_G} {tc : Nat → ClassId} {ro : Ro} {oa : Ky → Nat} {sh : Sh} {lm : Nat → Nat} {j0 : Nat} {μ : Mm} {v1 v2 v3 v4 v5 : Int32} {res : Int32 × (Nat → Nat) × Mm} {KC KS : Nat} (hwf : WfS sh) (hj0 : sh 2 j0 = 1) (hf : f_X6_noteA sh lm j0 μ v1 v2 v3 v4 v5 = some (res, KC, KS)) : CtA l D tc ro oa yX6_note cX6_note 7 none (rma 3 103 KC KS) [.ref (oa (13, j0)), .int v1, .int v2, .int v3, .int v4, .int v5] sh lm μ none res.2.1 res.2.2 := by
  refine CtA.of (by decide) (Nat.le_of_ble_eq_true rfl) (fun aa p e s m args below meth c A C hr hk hW ls hl => ?_)
  have hx := C.1.1
  have hb := C.1.2.1
  obtain ⟨Q, hQ⟩ : ∃ Q, Q = MQ below (Cta D tc oa none sh res.2.1 res.2.2 A) args s (rma 3 103 KC KS).cells (rma 3 103 KC KS).slots A := ⟨_, rfl⟩
  rw [← hQ]
  have hl : lv_has ls 7 [(0, .ref (oa (13, j0))), (1, .int v1), (2, .int v2), (3, .int v3), (4, .int v4), (5, .int v5)] := hl
  have hcs : 0 + KC ≤ KC ∧ 0 + KS ≤ KS := ⟨by omega, by omega⟩
  unfold f_X6_noteA at hf
  refine lv_aload_n hx hb dX6_note_0 rfl (lv_at hl 0 rfl) ?_
  refine gf_X6_39 C hW hj0 dX6_note_1 ?_
  refine lv_sipush (v := 300) hx hb dX6_note_4 (by decide) ?_
  obtain ⟨x7, h7, hf⟩ := bd_of hf
  obtain ⟨kc1, ks1, hf, ek1, es1⟩ := addc_of hf
  have hcs := cs_add hcs ek1 es1
  refine r_callA (k := ((11, 15 + 5 * j0 + 4) : Ky)) C hW hl lk_X6_92 (cA_X1_grow hwf (cex_st hj0 (by decide)) h7) ⟨Nat.le_of_ble_eq_true rfl, Nat.le_of_ble_eq_true rfl⟩ rfl (faB_11 (cex_st hj0 (by decide))) rfl (As := [.int (300 : Int32)]) (rest := []) rfl rfl (Nat.le_of_ble_eq_true rfl) dX6_note_7 (ca_le hcs) (fun aa H locs hW => ?_)
  show W p l e (rma 3 103 KC KS) s m args below meth c H locs (0 + x7.2.1) (0 + x7.2.2) Q (F0 m 10 ls [])
  refine lv_aload_n hx hb dX6_note_10 rfl (lv_at hl 0 rfl) ?_
  refine gf_X6_69 C hW hj0 dX6_note_11 ?_
  refine lv_iconst (v := 5) hx hb dX6_note_14 (by decide) ?_
  refine lv_imul hx hb dX6_note_15 ?_
  refine lv_istore (lv' := [(6, .int ((x7.1.2.2 (13, j0) 15) * (5 : Int32))), (0, .ref (oa (13, j0))), (1, .int v1), (2, .int v2), (3, .int v3), (4, .int v4), (5, .int v5)]) hx hb dX6_note_16 hl (by decide) rfl (fun ls hl => ?_)
  refine lv_aload_n hx hb dX6_note_18 rfl (lv_at hl 1 rfl) ?_
  refine gf_X6_39 C hW hj0 dX6_note_19 ?_
  refine lv_iload hx hb dX6_note_22 (lv_at hl 0 rfl) ?_
  refine lv_iload_n hx hb dX6_note_24 rfl (lv_at hl 2 rfl) ?_
  obtain ⟨x25, h25, hf⟩ := bd_of hf
  refine r_callV (k := ((11, 15 + 5 * j0 + 4) : Ky)) C hW hl lk_X6_42 (c_X1_put hwf (cex_st hj0 (by decide)) h25) ⟨rfl, rfl⟩ ⟨Nat.le_of_ble_eq_true rfl, Nat.le_of_ble_eq_true rfl⟩ rfl (faB_11 (cex_st hj0 (by decide))) rfl (As := [.int ((x7.1.2.2 (13, j0) 15) * (5 : Int32)), .int v1]) (rest := []) rfl rfl (Nat.le_of_ble_eq_true rfl) dX6_note_25 (ca_le hcs) (fun H locs hW => ?_)
  show W p l e (rma 3 103 KC KS) s m args below meth c H locs (0 + x7.2.1) (0 + x7.2.2) Q (F0 m 28 ls [])
  refine lv_aload_n hx hb dX6_note_28 rfl (lv_at hl 1 rfl) ?_
  refine gf_X6_39 C hW hj0 dX6_note_29 ?_
  refine lv_iload hx hb dX6_note_32 (lv_at hl 0 rfl) ?_
  refine lv_iconst (v := 1) hx hb dX6_note_34 (by decide) ?_
  refine lv_iadd hx hb dX6_note_35 ?_
  refine lv_iload_n hx hb dX6_note_36 rfl (lv_at hl 3 rfl) ?_
  obtain ⟨x37, h37, hf⟩ := bd_of hf
  refine r_callV (k := ((11, 15 + 5 * j0 + 4) : Ky)) C hW hl lk_X6_42 (c_X1_put hwf (cex_st hj0 (by decide)) h37) ⟨rfl, rfl⟩ ⟨Nat.le_of_ble_eq_true rfl, Nat.le_of_ble_eq_true rfl⟩ rfl (faB_11 (cex_st hj0 (by decide))) rfl (As := [.int (((x7.1.2.2 (13, j0) 15) * (5 : Int32)) + (1 : Int32)), .int v2]) (rest := []) rfl rfl (Nat.le_of_ble_eq_true rfl) dX6_note_37 (ca_le hcs) (fun H locs hW => ?_)
  show W p l e (rma 3 103 KC KS) s m args below meth c H locs (0 + x7.2.1) (0 + x7.2.2) Q (F0 m 40 ls [])
  refine lv_aload_n hx hb dX6_note_40 rfl (lv_at hl 1 rfl) ?_
  refine gf_X6_39 C hW hj0 dX6_note_41 ?_
  refine lv_iload hx hb dX6_note_44 (lv_at hl 0 rfl) ?_
  refine lv_iconst (v := 2) hx hb dX6_note_46 (by decide) ?_
  refine lv_iadd hx hb dX6_note_47 ?_
  refine lv_iload_n hx hb dX6_note_48 rfl (lv_at hl 4 rfl) ?_
  obtain ⟨x49, h49, hf⟩ := bd_of hf
  refine r_callV (k := ((11, 15 + 5 * j0 + 4) : Ky)) C hW hl lk_X6_42 (c_X1_put hwf (cex_st hj0 (by decide)) h49) ⟨rfl, rfl⟩ ⟨Nat.le_of_ble_eq_true rfl, Nat.le_of_ble_eq_true rfl⟩ rfl (faB_11 (cex_st hj0 (by decide))) rfl (As := [.int (((x7.1.2.2 (13, j0) 15) * (5 : Int32)) + (2 : Int32)), .int v3]) (rest := []) rfl rfl (Nat.le_of_ble_eq_true rfl) dX6_note_49 (ca_le hcs) (fun H locs hW => ?_)
  show W p l e (rma 3 103 KC KS) s m args below meth c H locs (0 + x7.2.1) (0 + x7.2.2) Q (F0 m 52 ls [])
  refine lv_aload_n hx hb dX6_note_52 rfl (lv_at hl 1 rfl) ?_
  refine gf_X6_39 C hW hj0 dX6_note_53 ?_
  refine lv_iload hx hb dX6_note_56 (lv_at hl 0 rfl) ?_
  refine lv_iconst (v := 3) hx hb dX6_note_58 (by decide) ?_
  refine lv_iadd hx hb dX6_note_59 ?_
  refine lv_iload hx hb dX6_note_60 (lv_at hl 5 rfl) ?_
  obtain ⟨x62, h62, hf⟩ := bd_of hf
  refine r_callV (k := ((11, 15 + 5 * j0 + 4) : Ky)) C hW hl lk_X6_42 (c_X1_put hwf (cex_st hj0 (by decide)) h62) ⟨rfl, rfl⟩ ⟨Nat.le_of_ble_eq_true rfl, Nat.le_of_ble_eq_true rfl⟩ rfl (faB_11 (cex_st hj0 (by decide))) rfl (As := [.int (((x7.1.2.2 (13, j0) 15) * (5 : Int32)) + (3 : Int32)), .int v4]) (rest := []) rfl rfl (Nat.le_of_ble_eq_true rfl) dX6_note_62 (ca_le hcs) (fun H locs hW => ?_)
  show W p l e (rma 3 103 KC KS) s m args below meth c H locs (0 + x7.2.1) (0 + x7.2.2) Q (F0 m 65 ls [])
  refine lv_aload_n hx hb dX6_note_65 rfl (lv_at hl 1 rfl) ?_
  refine gf_X6_39 C hW hj0 dX6_note_66 ?_
  refine lv_iload hx hb dX6_note_69 (lv_at hl 0 rfl) ?_
  refine lv_iconst (v := 4) hx hb dX6_note_71 (by decide) ?_
  refine lv_iadd hx hb dX6_note_72 ?_
  refine lv_iload hx hb dX6_note_73 (lv_at hl 6 rfl) ?_
  obtain ⟨x75, h75, hf⟩ := bd_of hf
  refine r_callV (k := ((11, 15 + 5 * j0 + 4) : Ky)) C hW hl lk_X6_42 (c_X1_put hwf (cex_st hj0 (by decide)) h75) ⟨rfl, rfl⟩ ⟨Nat.le_of_ble_eq_true rfl, Nat.le_of_ble_eq_true rfl⟩ rfl (faB_11 (cex_st hj0 (by decide))) rfl (As := [.int (((x7.1.2.2 (13, j0) 15) * (5 : Int32)) + (4 : Int32)), .int v5]) (rest := []) rfl rfl (Nat.le_of_ble_eq_true rfl) dX6_note_75 (ca_le hcs) (fun H locs hW => ?_)
  show W p l e (rma 3 103 KC KS) s m args below meth c H locs (0 + x7.2.1) (0 + x7.2.2) Q (F0 m 78 ls [])
  refine lv_aload_n hx hb dX6_note_78 rfl (lv_at hl 1 rfl) ?_
  refine lv_aload_n hx hb dX6_note_79 rfl (lv_at hl 1 rfl) ?_
  refine gf_X6_69 C hW hj0 dX6_note_80 ?_
  refine lv_iconst (v := 1) hx hb dX6_note_83 (by decide) ?_
  refine lv_iadd hx hb dX6_note_84 ?_
  refine lv_bipush (v := 60) hx hb dX6_note_85 (by decide) ?_
  refine lv_icmp_ge (tgt := 99) hx hb dX6_note_87 (by decide) (fun c2 => ?_) (fun c2 => ?_)
  · have hf := (if_pos c2).symm.trans hf
    refine lv_iconst (v := 0) hx hb dX6_note_99 (by decide) ?_
    refine pf_X6_69 C hW hj0 dX6_note_100 (fun H locs hW => ?_)
    refine lv_aload_n hx hb dX6_note_103 rfl (lv_at hl 1 rfl) ?_
    refine lv_aload_n hx hb dX6_note_104 rfl (lv_at hl 1 rfl) ?_
    refine gf_X6_66 C hW hj0 dX6_note_105 ?_
    refine lv_iconst (v := 1) hx hb dX6_note_108 (by decide) ?_
    refine lv_iadd hx hb dX6_note_109 ?_
    refine lv_bipush (v := 60) hx hb dX6_note_110 (by decide) ?_
    refine r_mmin C hl kw_993 kw_560 kw_140 kw_561 (Nat.le_of_ble_eq_true rfl) (Nat.le_of_ble_eq_true rfl) (ca_le hcs) dX6_note_112 ?_
    refine pf_X6_66 C hW hj0 dX6_note_115 (fun H locs hW => ?_)
    obtain ⟨μ3, hm3, hf⟩ := bd_of hf
    rw [Option.some.inj hm3] at hW
    obtain ⟨eo, ek1, ek2⟩ := retA hf
    subst eo
    rw [hQ]
    exact r_vretA C hr hk hW (cs_end hcs).1 (cs_end hcs).2 dX6_note_118
  · have hf := (if_neg c2).symm.trans hf
    refine lv_aload_n hx hb dX6_note_90 rfl (lv_at hl 1 rfl) ?_
    refine gf_X6_69 C hW hj0 dX6_note_91 ?_
    refine lv_iconst (v := 1) hx hb dX6_note_94 (by decide) ?_
    refine lv_iadd hx hb dX6_note_95 ?_
    refine lv_goto (tgt := 100) hx hb dX6_note_96 (by decide) ?_
    refine pf_X6_69 C hW hj0 dX6_note_100 (fun H locs hW => ?_)
    refine lv_aload_n hx hb dX6_note_103 rfl (lv_at hl 1 rfl) ?_
    refine lv_aload_n hx hb dX6_note_104 rfl (lv_at hl 1 rfl) ?_
    refine gf_X6_66 C hW hj0 dX6_note_105 ?_
    refine lv_iconst (v := 1) hx hb dX6_note_108 (by decide) ?_
    refine lv_iadd hx hb dX6_note_109 ?_
    refine lv_bipush (v := 60) hx hb dX6_note_110 (by decide) ?_
    refine r_mmin C hl kw_993 kw_560 kw_140 kw_561 (Nat.le_of_ble_eq_true rfl) (Nat.le_of_ble_eq_true rfl) (ca_le hcs) dX6_note_112 ?_
    refine pf_X6_66 C hW hj0 dX6_note_115 (fun H locs hW => ?_)
    obtain ⟨μ4, hm4, hf⟩ := bd_of hf
    rw [Option.some.inj hm4] at hW
    obtain ⟨eo, ek1, ek2⟩ := retA hf
    subst eo
    rw [hQ]
    exact r_vretA C hr hk hW (cs_end hcs).1 (cs_end hcs).2 dX6_note_118
set_option maxHeartbeats 4000000 in
set_option maxRecDepth 100000 in
theorem cA_X0_treatOne {l : Launch} {D : va_G} {tc : Nat → ClassId} {ro : Ro} {oa : Ky → Nat} {sh : Sh} {lm : Nat → Nat} {j1 : Nat} {μ : Mm} {v2 v3 v4 : Int32} {res : Int32 × (Nat → Nat) × Mm} {KC KS : Nat} (hwf : WfS sh) (hj1 : sh 2 j1 = 1) (hf : f_X0_treatOneA sh lm j1 μ v2 v3 v4 = some (res, KC, KS)) : CtA l D tc ro oa yX0_treatOne cX0_treatOne 7 (some .int) (rma 5 129 KC KS) [.ref (oa (4, 0)), .ref (oa (13, j1)), .int v2, .int v3, .int v4] sh lm μ (some (.int res.1)) res.2.1 res.2.2 := by
  refine CtA.of (by decide) (Nat.le_of_ble_eq_true rfl) (fun aa p e s m args below meth c A C hr hk hW ls hl => ?_)
  have hx := C.1.1
  have hb := C.1.2.1
  obtain ⟨Q, hQ⟩ : ∃ Q, Q = MQ below (Cta D tc oa (some (.int res.1)) sh res.2.1 res.2.2 A) args s (rma 5 129 KC KS).cells (rma 5 129 KC KS).slots A := ⟨_, rfl⟩
  rw [← hQ]
  have hl : lv_has ls 7 [(0, .ref (oa (4, 0))), (1, .ref (oa (13, j1))), (2, .int v2), (3, .int v3), (4, .int v4)] := hl
  have hcs : 0 + KC ≤ KC ∧ 0 + KS ≤ KS := ⟨by omega, by omega⟩
  unfold f_X0_treatOneA at hf
  refine lv_aload_n hx hb dX0_treatOne_0 rfl (lv_at hl 0 rfl) ?_
  refine gf_X0_9 C hW dX0_treatOne_1 ?_
  refine lv_aload_n hx hb dX0_treatOne_4 rfl (lv_at hl 1 rfl) ?_
  refine lv_iload_n hx hb dX0_treatOne_5 rfl (lv_at hl 2 rfl) ?_
  refine lv_iload_n hx hb dX0_treatOne_6 rfl (lv_at hl 3 rfl) ?_
  obtain ⟨x7, h7, hf⟩ := bd_of hf
  refine r_callV (k := ((3, 0) : Ky)) C hW hl lk_X0_15 (c_X4_meet hwf hj1 h7) ⟨rfl, rfl⟩ ⟨Nat.le_of_ble_eq_true rfl, Nat.le_of_ble_eq_true rfl⟩ rfl rfl rfl (As := [.ref (oa (13, j1)), .int v2, .int v3]) (rest := []) rfl rfl (Nat.le_of_ble_eq_true rfl) dX0_treatOne_7 (ca_le hcs) (fun H locs hW => ?_)
  show W p l e (rma 5 129 KC KS) s m args below meth c H locs 0 0 Q (F0 m 10 ls [])
  refine lv_aload_n hx hb dX0_treatOne_10 rfl (lv_at hl 0 rfl) ?_
  refine gf_X0_9 C hW dX0_treatOne_11 ?_
  refine lv_aload_n hx hb dX0_treatOne_14 rfl (lv_at hl 1 rfl) ?_
  refine gf_X0_21 C hW hj1 dX0_treatOne_15 ?_
  obtain ⟨x18, h18, hf⟩ := bd_of hf
  refine r_callV (k := ((3, 0) : Ky)) C hW hl lk_X0_27 (c_X4_mannerIn hwf h18) ⟨rfl, rfl⟩ ⟨Nat.le_of_ble_eq_true rfl, Nat.le_of_ble_eq_true rfl⟩ rfl rfl rfl (As := [.int (x7 (13, j1) 3)]) (rest := []) rfl rfl (Nat.le_of_ble_eq_true rfl) dX0_treatOne_18 (ca_le hcs) (fun H locs hW => ?_)
  show W p l e (rma 5 129 KC KS) s m args below meth c H locs 0 0 Q (F0 m 21 ls [.int x18])
  refine lv_istore (lv' := [(5, .int x18), (0, .ref (oa (4, 0))), (1, .ref (oa (13, j1))), (2, .int v2), (3, .int v3), (4, .int v4)]) hx hb dX0_treatOne_21 hl (by decide) rfl (fun ls hl => ?_)
  refine lv_iconst (v := 0) hx hb dX0_treatOne_23 (by decide) ?_
  refine lv_istore (lv' := [(6, .int (0 : Int32)), (5, .int x18), (0, .ref (oa (4, 0))), (1, .ref (oa (13, j1))), (2, .int v2), (3, .int v3), (4, .int v4)]) hx hb dX0_treatOne_24 hl (by decide) rfl (fun ls hl => ?_)
  have L26 : ∀ (lm : Nat → Nat) (aa : Nat → Nat) (μ : Mm) (v5 v6 : Int32) (cells slots kc ks : Nat) (H : Heap) (locs : List Loc) (ls : Array Slot), WhC (fun z : (Nat → Nat) × Mm × Int32 => f_X0_treatOneA_L26 sh z.1 j1 v2 v3 v4 v5 z.2.1 z.2.2) (lm, μ, v6) = some (res, kc, ks) → cells + kc ≤ KC ∧ slots + ks ≤ KS → Wd D (faB oa aa sh) (feB tc oa aa sh lm) A s.heap μ H locs → lv_has ls 7 [(0, .ref (oa (4, 0))), (1, .ref (oa (13, j1))), (2, .int v2), (3, .int v3), (4, .int v4), (5, .int v5), (6, .int v6)] → W p l e (rma 5 129 KC KS) s m args below meth c H locs cells slots Q (F0 m 26 ls []) := by
    intro lm aa μ v5 v6 cells slots kc ks H locs ls hf hcs hW hl
    refine WhC_rule hf (fun (z : (Nat → Nat) × Mm × Int32) (kc ks : Nat) => ∀ (aa : Nat → Nat) (cells slots : Nat) (H : Heap) (locs : List Loc) (ls : Array Slot), cells + kc ≤ KC ∧ slots + ks ≤ KS → Wd D (faB oa aa sh) (feB tc oa aa sh z.1) A s.heap z.2.1 H locs → lv_has ls 7 [(0, .ref (oa (4, 0))), (1, .ref (oa (13, j1))), (2, .int v2), (3, .int v3), (4, .int v4), (5, .int v5), (6, .int z.2.2)] → W p l e (rma 5 129 KC KS) s m args below meth c H locs cells slots Q (F0 m 26 ls [])) (fun z o1 kc ks K1 K2 hf Kl1 Kr1 => ?_) _ _ _ _ _ _ hcs hW hl
    obtain ⟨lm, μ, v6⟩ := z
    intro aa cells slots H locs ls hcs hW hl
    have hf : f_X0_treatOneA_L26 sh lm j1 v2 v3 v4 v5 μ v6 = some (o1, kc, ks) := hf
    unfold f_X0_treatOneA_L26 at hf
    have hW : Wd D (faB oa aa sh) (feB tc oa aa sh lm) A s.heap μ H locs := hW
    have hl : lv_has ls 7 [(0, .ref (oa (4, 0))), (1, .ref (oa (13, j1))), (2, .int v2), (3, .int v3), (4, .int v4), (5, .int v5), (6, .int v6)] := hl
    refine lv_iload hx hb dX0_treatOne_26 (lv_at hl 6 rfl) ?_
    refine lv_aload_n hx hb dX0_treatOne_28 rfl (lv_at hl 1 rfl) ?_
    refine gf_X0_31 C hW hj1 dX0_treatOne_29 ?_
    refine lv_icmp_ge (tgt := 62) hx hb dX0_treatOne_32 (by decide) (fun c1 => ?_) (fun c1 => ?_)
    · have hf := (if_pos c1).symm.trans hf
      obtain ⟨x9005, hf, hx9005⟩ := mapc_of hf
      obtain ⟨e9005, hK1, hK2⟩ := Kr1 _ hx9005
      have e9005 := e9005.symm
      subst e9005
      have hcs := cs_out hcs hK1 hK2
      refine lv_aload_n hx hb dX0_treatOne_62 rfl (lv_at hl 1 rfl) ?_
      refine lv_iload hx hb dX0_treatOne_63 (lv_at hl 4 rfl) ?_
      refine lv_if_eq (tgt := 72) hx hb dX0_treatOne_65 (by decide) (fun c2 => ?_) (fun c2 => ?_)
      · have hf := (if_pos c2).symm.trans hf
        refine lv_iconst (v := 0) hx hb dX0_treatOne_72 (by decide) ?_
        refine lv_iload_n hx hb dX0_treatOne_73 rfl (lv_at hl 2 rfl) ?_
        refine lv_iload_n hx hb dX0_treatOne_74 rfl (lv_at hl 3 rfl) ?_
        refine lv_iload hx hb dX0_treatOne_75 (lv_at hl 5 rfl) ?_
        refine lv_aload_n hx hb dX0_treatOne_77 rfl (lv_at hl 0 rfl) ?_
        refine gf_X0_9 C hW dX0_treatOne_78 ?_
        refine lv_aload_n hx hb dX0_treatOne_81 rfl (lv_at hl 1 rfl) ?_
        refine lv_aload_n hx hb dX0_treatOne_82 rfl (lv_at hl 1 rfl) ?_
        refine gf_X0_38 C hW hj1 dX0_treatOne_83 ?_
        obtain ⟨x86, h86, hf⟩ := bd_of hf
        refine r_callV (k := ((3, 0) : Ky)) C hW hl lk_X0_42 (c_X4_sureBits hwf hj1 (cex_st hj1 (by decide)) h86) ⟨rfl, rfl⟩ ⟨Nat.le_of_ble_eq_true rfl, Nat.le_of_ble_eq_true rfl⟩ rfl rfl rfl (As := [.ref (oa (13, j1)), .ref (oa (11, 15 + 5 * j1 + 2))]) (rest := [.int v5, .int v3, .int v2, .int (0 : Int32), .ref (oa (13, j1))]) rfl rfl (Nat.le_of_ble_eq_true rfl) dX0_treatOne_86 (ca_le hcs) (fun H locs hW => ?_)
        show W p l e (rma 5 129 KC KS) s m args below meth c H locs cells slots Q (F0 m 89 ls [.int x86, .int v5, .int v3, .int v2, .int (0 : Int32), .ref (oa (13, j1))])
        obtain ⟨x89, h89, hf⟩ := bd_of hf
        obtain ⟨kc3, ks3, hf, ek3, es3⟩ := addc_of hf
        have hcs := cs_add hcs ek3 es3
        refine r_callA (k := ((13, j1) : Ky)) C hW hl lk_X0_46 (cA_X6_note hwf hj1 h89) ⟨Nat.le_of_ble_eq_true rfl, Nat.le_of_ble_eq_true rfl⟩ rfl (faB_13 hj1) rfl (As := [.int (0 : Int32), .int v2, .int v3, .int v5, .int x86]) (rest := []) rfl rfl (Nat.le_of_ble_eq_true rfl) dX0_treatOne_89 (ca_le hcs) (fun aa H locs hW => ?_)
        show W p l e (rma 5 129 KC KS) s m args below meth c H locs (cells + x89.2.1) (slots + x89.2.2) Q (F0 m 92 ls [])
        refine lv_iload hx hb dX0_treatOne_92 (lv_at hl 5 rfl) ?_
        obtain ⟨eo, ek1, ek2⟩ := retA hf
        subst eo
        rw [hQ]
        exact r_iretA C hr hk hW (cs_end hcs).1 (cs_end hcs).2 dX0_treatOne_94
      · have hf := (if_neg c2).symm.trans hf
        refine lv_iconst (v := 1) hx hb dX0_treatOne_68 (by decide) ?_
        refine lv_goto (tgt := 73) hx hb dX0_treatOne_69 (by decide) ?_
        refine lv_iload_n hx hb dX0_treatOne_73 rfl (lv_at hl 2 rfl) ?_
        refine lv_iload_n hx hb dX0_treatOne_74 rfl (lv_at hl 3 rfl) ?_
        refine lv_iload hx hb dX0_treatOne_75 (lv_at hl 5 rfl) ?_
        refine lv_aload_n hx hb dX0_treatOne_77 rfl (lv_at hl 0 rfl) ?_
        refine gf_X0_9 C hW dX0_treatOne_78 ?_
        refine lv_aload_n hx hb dX0_treatOne_81 rfl (lv_at hl 1 rfl) ?_
        refine lv_aload_n hx hb dX0_treatOne_82 rfl (lv_at hl 1 rfl) ?_
        refine gf_X0_38 C hW hj1 dX0_treatOne_83 ?_
        obtain ⟨x86, h86, hf⟩ := bd_of hf
        refine r_callV (k := ((3, 0) : Ky)) C hW hl lk_X0_42 (c_X4_sureBits hwf hj1 (cex_st hj1 (by decide)) h86) ⟨rfl, rfl⟩ ⟨Nat.le_of_ble_eq_true rfl, Nat.le_of_ble_eq_true rfl⟩ rfl rfl rfl (As := [.ref (oa (13, j1)), .ref (oa (11, 15 + 5 * j1 + 2))]) (rest := [.int v5, .int v3, .int v2, .int (1 : Int32), .ref (oa (13, j1))]) rfl rfl (Nat.le_of_ble_eq_true rfl) dX0_treatOne_86 (ca_le hcs) (fun H locs hW => ?_)
        show W p l e (rma 5 129 KC KS) s m args below meth c H locs cells slots Q (F0 m 89 ls [.int x86, .int v5, .int v3, .int v2, .int (1 : Int32), .ref (oa (13, j1))])
        obtain ⟨x89, h89, hf⟩ := bd_of hf
        obtain ⟨kc4, ks4, hf, ek4, es4⟩ := addc_of hf
        have hcs := cs_add hcs ek4 es4
        refine r_callA (k := ((13, j1) : Ky)) C hW hl lk_X0_46 (cA_X6_note hwf hj1 h89) ⟨Nat.le_of_ble_eq_true rfl, Nat.le_of_ble_eq_true rfl⟩ rfl (faB_13 hj1) rfl (As := [.int (1 : Int32), .int v2, .int v3, .int v5, .int x86]) (rest := []) rfl rfl (Nat.le_of_ble_eq_true rfl) dX0_treatOne_89 (ca_le hcs) (fun aa H locs hW => ?_)
        show W p l e (rma 5 129 KC KS) s m args below meth c H locs (cells + x89.2.1) (slots + x89.2.2) Q (F0 m 92 ls [])
        refine lv_iload hx hb dX0_treatOne_92 (lv_at hl 5 rfl) ?_
        obtain ⟨eo, ek1, ek2⟩ := retA hf
        subst eo
        rw [hQ]
        exact r_iretA C hr hk hW (cs_end hcs).1 (cs_end hcs).2 dX0_treatOne_94
    · have hf := (if_neg c1).symm.trans hf
      refine lv_iload hx hb dX0_treatOne_35 (lv_at hl 4 rfl) ?_
      refine lv_if_ne (tgt := 46) hx hb dX0_treatOne_37 (by decide) (fun c6 => ?_) (fun c6 => ?_)
      · have hf := (if_neg c6).symm.trans hf
        refine lv_aload_n hx hb dX0_treatOne_46 rfl (lv_at hl 0 rfl) ?_
        refine gf_X0_9 C hW dX0_treatOne_47 ?_
        refine lv_aload_n hx hb dX0_treatOne_50 rfl (lv_at hl 1 rfl) ?_
        refine lv_iload hx hb dX0_treatOne_51 (lv_at hl 6 rfl) ?_
        obtain ⟨x53, h53, hf⟩ := bd_of hf
        refine r_callV (k := ((3, 0) : Ky)) C hW hl lk_X0_34 (c_X4_split hwf hj1 h53) ⟨rfl, rfl⟩ ⟨Nat.le_of_ble_eq_true rfl, Nat.le_of_ble_eq_true rfl⟩ rfl rfl rfl (As := [.ref (oa (13, j1)), .int v6]) (rest := []) rfl rfl (Nat.le_of_ble_eq_true rfl) dX0_treatOne_53 (ca_le hcs) (fun H locs hW => ?_)
        show W p l e (rma 5 129 KC KS) s m args below meth c H locs cells slots Q (F0 m 56 ls [])
        refine lv_iinc (v := (v6 + (1 : Int32))) (lv' := [(6, .int (v6 + (1 : Int32))), (0, .ref (oa (4, 0))), (1, .ref (oa (13, j1))), (2, .int v2), (3, .int v3), (4, .int v4), (5, .int v5)]) hx hb dX0_treatOne_56 hl (k := 6) rfl rfl (by decide) rfl (fun ls hl => ?_)
        refine lv_goto (tgt := 26) hx hb dX0_treatOne_59 (by decide) ?_
        obtain ⟨eo, ek1, ek2⟩ := retA hf
        subst eo
        exact Kl1 _ rfl _ _ _ _ _ _ (cs_in hcs ek1 ek2) hW (lv_sub hl [1, 2, 3, 4, 5, 6, 0] rfl)
      · have hf := (if_pos c6).symm.trans hf
        refine lv_iload hx hb dX0_treatOne_40 (lv_at hl 6 rfl) ?_
        refine lv_iload_n hx hb dX0_treatOne_42 rfl (lv_at hl 3 rfl) ?_
        refine lv_icmp_ne (tgt := 56) hx hb dX0_treatOne_43 (by decide) (fun c7 => ?_) (fun c7 => ?_)
        · have hf := (if_neg c7).symm.trans hf
          refine lv_iinc (v := (v6 + (1 : Int32))) (lv' := [(6, .int (v6 + (1 : Int32))), (0, .ref (oa (4, 0))), (1, .ref (oa (13, j1))), (2, .int v2), (3, .int v3), (4, .int v4), (5, .int v5)]) hx hb dX0_treatOne_56 hl (k := 6) rfl rfl (by decide) rfl (fun ls hl => ?_)
          refine lv_goto (tgt := 26) hx hb dX0_treatOne_59 (by decide) ?_
          obtain ⟨eo, ek1, ek2⟩ := retA hf
          subst eo
          exact Kl1 _ rfl _ _ _ _ _ _ (cs_in hcs ek1 ek2) hW (lv_sub hl [1, 2, 3, 4, 5, 6, 0] rfl)
        · have hf := (if_pos c7).symm.trans hf
          refine lv_aload_n hx hb dX0_treatOne_46 rfl (lv_at hl 0 rfl) ?_
          refine gf_X0_9 C hW dX0_treatOne_47 ?_
          refine lv_aload_n hx hb dX0_treatOne_50 rfl (lv_at hl 1 rfl) ?_
          refine lv_iload hx hb dX0_treatOne_51 (lv_at hl 6 rfl) ?_
          obtain ⟨x53, h53, hf⟩ := bd_of hf
          refine r_callV (k := ((3, 0) : Ky)) C hW hl lk_X0_34 (c_X4_split hwf hj1 h53) ⟨rfl, rfl⟩ ⟨Nat.le_of_ble_eq_true rfl, Nat.le_of_ble_eq_true rfl⟩ rfl rfl rfl (As := [.ref (oa (13, j1)), .int v6]) (rest := []) rfl rfl (Nat.le_of_ble_eq_true rfl) dX0_treatOne_53 (ca_le hcs) (fun H locs hW => ?_)
          show W p l e (rma 5 129 KC KS) s m args below meth c H locs cells slots Q (F0 m 56 ls [])
          refine lv_iinc (v := (v6 + (1 : Int32))) (lv' := [(6, .int (v6 + (1 : Int32))), (0, .ref (oa (4, 0))), (1, .ref (oa (13, j1))), (2, .int v2), (3, .int v3), (4, .int v4), (5, .int v5)]) hx hb dX0_treatOne_56 hl (k := 6) rfl rfl (by decide) rfl (fun ls hl => ?_)
          refine lv_goto (tgt := 26) hx hb dX0_treatOne_59 (by decide) ?_
          obtain ⟨eo, ek1, ek2⟩ := retA hf
          subst eo
          exact Kl1 _ rfl _ _ _ _ _ _ (cs_in hcs ek1 ek2) hW (lv_sub hl [1, 2, 3, 4, 5, 6, 0] rfl)
  exact L26 _ _ x7 x18 (0 : Int32) _ _ _ _ _ _ _ hf hcs hW (lv_sub hl [2, 3, 4, 5, 6, 1, 0] rfl)
set_option maxHeartbeats 4000000 in
set_option maxRecDepth 100000 in
theorem cA_X0_turnTo {l : Launch} {D : va_G} {tc : Nat → ClassId} {ro : Ro} {oa : Ky → Nat} {sh : Sh} {lm : Nat → Nat} {j1 : Nat} {μ : Mm} {v2 v3 : Int32} {res : Int32 × (Nat → Nat) × Mm} {KC KS : Nat} (hwf : WfS sh) (hj1 : sh 2 j1 = 1) (hf : f_X0_turnToA sh lm j1 μ v2 v3 = some (res, KC, KS)) : CtA l D tc ro oa yX0_turnTo cX0_turnTo 5 (some .int) (rma 5 129 KC KS) [.ref (oa (4, 0)), .ref (oa (13, j1)), .int v2, .int v3] sh lm μ (some (.int res.1)) res.2.1 res.2.2 := by
  refine CtA.of (by decide) (Nat.le_of_ble_eq_true rfl) (fun aa p e s m args below meth c A C hr hk hW ls hl => ?_)
  have hx := C.1.1
  have hb := C.1.2.1
  obtain ⟨Q, hQ⟩ : ∃ Q, Q = MQ below (Cta D tc oa (some (.int res.1)) sh res.2.1 res.2.2 A) args s (rma 5 129 KC KS).cells (rma 5 129 KC KS).slots A := ⟨_, rfl⟩
  rw [← hQ]
  have hl : lv_has ls 5 [(0, .ref (oa (4, 0))), (1, .ref (oa (13, j1))), (2, .int v2), (3, .int v3)] := hl
  have hcs : 0 + KC ≤ KC ∧ 0 + KS ≤ KS := ⟨by omega, by omega⟩
  unfold f_X0_turnToA at hf
  refine lv_aload_n hx hb dX0_turnTo_0 rfl (lv_at hl 0 rfl) ?_
  refine gf_X0_9 C hW dX0_turnTo_1 ?_
  refine lv_aload_n hx hb dX0_turnTo_4 rfl (lv_at hl 1 rfl) ?_
  refine lv_iload_n hx hb dX0_turnTo_5 rfl (lv_at hl 2 rfl) ?_
  refine lv_iload_n hx hb dX0_turnTo_6 rfl (lv_at hl 3 rfl) ?_
  obtain ⟨x7, h7, hf⟩ := bd_of hf
  refine r_callV (k := ((3, 0) : Ky)) C hW hl lk_X0_50 (c_X4_look hwf hj1 h7) ⟨rfl, rfl⟩ ⟨Nat.le_of_ble_eq_true rfl, Nat.le_of_ble_eq_true rfl⟩ rfl rfl rfl (As := [.ref (oa (13, j1)), .int v2, .int v3]) (rest := []) rfl rfl (Nat.le_of_ble_eq_true rfl) dX0_turnTo_7 (ca_le hcs) (fun H locs hW => ?_)
  show W p l e (rma 5 129 KC KS) s m args below meth c H locs 0 0 Q (F0 m 10 ls [])
  refine lv_aload_n hx hb dX0_turnTo_10 rfl (lv_at hl 1 rfl) ?_
  refine lv_aload_n hx hb dX0_turnTo_11 rfl (lv_at hl 1 rfl) ?_
  refine gf_X0_21 C hW hj1 dX0_turnTo_12 ?_
  refine lv_iload_n hx hb dX0_turnTo_15 rfl (lv_at hl 3 rfl) ?_
  obtain ⟨x16, h16, hf⟩ := bd_of hf
  refine r_callV (k := ((13, j1) : Ky)) C hW hl lk_X0_53 (c_X6_figure hwf hj1 h16) ⟨rfl, rfl⟩ ⟨Nat.le_of_ble_eq_true rfl, Nat.le_of_ble_eq_true rfl⟩ rfl (faB_13 hj1) rfl (As := [.int (x7 (13, j1) 3), .int v3]) (rest := []) rfl rfl (Nat.le_of_ble_eq_true rfl) dX0_turnTo_16 (ca_le hcs) (fun H locs hW => ?_)
  show W p l e (rma 5 129 KC KS) s m args below meth c H locs 0 0 Q (F0 m 19 ls [.int x16])
  refine lv_istore (lv' := [(4, .int x16), (0, .ref (oa (4, 0))), (1, .ref (oa (13, j1))), (2, .int v2), (3, .int v3)]) hx hb dX0_turnTo_19 hl (by decide) rfl (fun ls hl => ?_)
  refine lv_aload_n hx hb dX0_turnTo_21 rfl (lv_at hl 2 rfl) ?_
  refine lv_iconst (v := 2) hx hb dX0_turnTo_22 (by decide) ?_
  refine lv_iload_n hx hb dX0_turnTo_23 rfl (lv_at hl 3 rfl) ?_
  refine lv_iload_n hx hb dX0_turnTo_24 rfl (lv_at hl 4 rfl) ?_
  refine lv_iload hx hb dX0_turnTo_25 (lv_at hl 0 rfl) ?_
  refine lv_aload_n hx hb dX0_turnTo_27 rfl (lv_at hl 1 rfl) ?_
  refine gf_X0_9 C hW dX0_turnTo_28 ?_
  refine lv_aload_n hx hb dX0_turnTo_31 rfl (lv_at hl 2 rfl) ?_
  refine lv_aload_n hx hb dX0_turnTo_32 rfl (lv_at hl 2 rfl) ?_
  refine gf_X0_38 C hW hj1 dX0_turnTo_33 ?_
  obtain ⟨x36, h36, hf⟩ := bd_of hf
  refine r_callV (k := ((3, 0) : Ky)) C hW hl lk_X0_42 (c_X4_sureBits hwf hj1 (cex_st hj1 (by decide)) h36) ⟨rfl, rfl⟩ ⟨Nat.le_of_ble_eq_true rfl, Nat.le_of_ble_eq_true rfl⟩ rfl rfl rfl (As := [.ref (oa (13, j1)), .ref (oa (11, 15 + 5 * j1 + 2))]) (rest := [.int x16, .int v3, .int v2, .int (2 : Int32), .ref (oa (13, j1))]) rfl rfl (Nat.le_of_ble_eq_true rfl) dX0_turnTo_36 (ca_le hcs) (fun H locs hW => ?_)
  show W p l e (rma 5 129 KC KS) s m args below meth c H locs 0 0 Q (F0 m 39 ls [.int x36, .int x16, .int v3, .int v2, .int (2 : Int32), .ref (oa (13, j1))])
  obtain ⟨x39, h39, hf⟩ := bd_of hf
  obtain ⟨kc1, ks1, hf, ek1, es1⟩ := addc_of hf
  have hcs := cs_add hcs ek1 es1
  refine r_callA (k := ((13, j1) : Ky)) C hW hl lk_X0_46 (cA_X6_note hwf hj1 h39) ⟨Nat.le_of_ble_eq_true rfl, Nat.le_of_ble_eq_true rfl⟩ rfl (faB_13 hj1) rfl (As := [.int (2 : Int32), .int v2, .int v3, .int x16, .int x36]) (rest := []) rfl rfl (Nat.le_of_ble_eq_true rfl) dX0_turnTo_39 (ca_le hcs) (fun aa H locs hW => ?_)
  show W p l e (rma 5 129 KC KS) s m args below meth c H locs (0 + x39.2.1) (0 + x39.2.2) Q (F0 m 42 ls [])
  refine lv_iload hx hb dX0_turnTo_42 (lv_at hl 0 rfl) ?_
  obtain ⟨eo, ek1, ek2⟩ := retA hf
  subst eo
  rw [hQ]
  exact r_iretA C hr hk hW (cs_end hcs).1 (cs_end hcs).2 dX0_turnTo_44
set_option maxHeartbeats 4000000 in
set_option maxRecDepth 100000 in
theorem cA_X0_askOne {l : Launch} {D : va_G} {tc : Nat → ClassId} {ro : Ro} {oa : Ky → Nat} {sh : Sh} {lm : Nat → Nat} {j1 : Nat} {μ : Mm} {v2 : Int32} {res : Int32 × (Nat → Nat) × Mm} {KC KS : Nat} (hwf : WfS sh) (hj1 : sh 2 j1 = 1) (hf : f_X0_askOneA sh lm j1 μ v2 = some (res, KC, KS)) : CtA l D tc ro oa yX0_askOne cX0_askOne 4 (some .boolean) (rma 5 129 KC KS) [.ref (oa (4, 0)), .ref (oa (13, j1)), .int v2] sh lm μ (some (.int res.1)) res.2.1 res.2.2 := by
  refine CtA.of (by decide) (Nat.le_of_ble_eq_true rfl) (fun aa p e s m args below meth c A C hr hk hW ls hl => ?_)
  have hx := C.1.1
  have hb := C.1.2.1
  obtain ⟨Q, hQ⟩ : ∃ Q, Q = MQ below (Cta D tc oa (some (.int res.1)) sh res.2.1 res.2.2 A) args s (rma 5 129 KC KS).cells (rma 5 129 KC KS).slots A := ⟨_, rfl⟩
  rw [← hQ]
  have hl : lv_has ls 4 [(0, .ref (oa (4, 0))), (1, .ref (oa (13, j1))), (2, .int v2)] := hl
  have hcs : 0 + KC ≤ KC ∧ 0 + KS ≤ KS := ⟨by omega, by omega⟩
  unfold f_X0_askOneA at hf
  refine lv_aload_n hx hb dX0_askOne_0 rfl (lv_at hl 0 rfl) ?_
  refine gf_X0_9 C hW dX0_askOne_1 ?_
  refine lv_aload_n hx hb dX0_askOne_4 rfl (lv_at hl 1 rfl) ?_
  refine lv_iload_n hx hb dX0_askOne_5 rfl (lv_at hl 2 rfl) ?_
  obtain ⟨x6, h6, hf⟩ := bd_of hf
  refine r_callV (k := ((3, 0) : Ky)) C hW hl lk_X0_57 (c_X4_sayWhetherSure hwf hj1 h6) ⟨rfl, rfl⟩ ⟨Nat.le_of_ble_eq_true rfl, Nat.le_of_ble_eq_true rfl⟩ rfl rfl rfl (As := [.ref (oa (13, j1)), .int v2]) (rest := []) rfl rfl (Nat.le_of_ble_eq_true rfl) dX0_askOne_6 (ca_le hcs) (fun H locs hW => ?_)
  show W p l e (rma 5 129 KC KS) s m args below meth c H locs 0 0 Q (F0 m 9 ls [])
  refine lv_aload_n hx hb dX0_askOne_9 rfl (lv_at hl 0 rfl) ?_
  refine lv_aload_n hx hb dX0_askOne_10 rfl (lv_at hl 1 rfl) ?_
  obtain ⟨x11, h11, hf⟩ := bd_of hf
  refine r_callV (k := ((4, 0) : Ky)) C hW hl lk_X0_60 (c_X0_heardByAll hwf hj1 h11) ⟨rfl, rfl⟩ ⟨Nat.le_of_ble_eq_true rfl, Nat.le_of_ble_eq_true rfl⟩ rfl rfl rfl (As := [.ref (oa (13, j1))]) (rest := []) rfl rfl (Nat.le_of_ble_eq_true rfl) dX0_askOne_11 (ca_le hcs) (fun H locs hW => ?_)
  show W p l e (rma 5 129 KC KS) s m args below meth c H locs 0 0 Q (F0 m 14 ls [.int x11.1])
  refine lv_istore_n (lv' := [(3, .int x11.1), (0, .ref (oa (4, 0))), (1, .ref (oa (13, j1))), (2, .int v2)]) hx hb dX0_askOne_14 rfl hl (by decide) rfl (fun ls hl => ?_)
  refine lv_aload_n hx hb dX0_askOne_15 rfl (lv_at hl 2 rfl) ?_
  refine lv_iconst (v := 3) hx hb dX0_askOne_16 (by decide) ?_
  refine lv_iload_n hx hb dX0_askOne_17 rfl (lv_at hl 3 rfl) ?_
  refine lv_iconst (v := -1) hx hb dX0_askOne_18 (by decide) ?_
  refine lv_iload_n hx hb dX0_askOne_19 rfl (lv_at hl 0 rfl) ?_
  refine lv_aload_n hx hb dX0_askOne_20 rfl (lv_at hl 1 rfl) ?_
  refine gf_X0_9 C hW dX0_askOne_21 ?_
  refine lv_aload_n hx hb dX0_askOne_24 rfl (lv_at hl 2 rfl) ?_
  refine lv_aload_n hx hb dX0_askOne_25 rfl (lv_at hl 2 rfl) ?_
  refine gf_X0_38 C hW hj1 dX0_askOne_26 ?_
  obtain ⟨x29, h29, hf⟩ := bd_of hf
  refine r_callV (k := ((3, 0) : Ky)) C hW hl lk_X0_42 (c_X4_sureBits hwf hj1 (cex_st hj1 (by decide)) h29) ⟨rfl, rfl⟩ ⟨Nat.le_of_ble_eq_true rfl, Nat.le_of_ble_eq_true rfl⟩ rfl rfl rfl (As := [.ref (oa (13, j1)), .ref (oa (11, 15 + 5 * j1 + 2))]) (rest := [.int x11.1, .int (-1 : Int32), .int v2, .int (3 : Int32), .ref (oa (13, j1))]) rfl rfl (Nat.le_of_ble_eq_true rfl) dX0_askOne_29 (ca_le hcs) (fun H locs hW => ?_)
  show W p l e (rma 5 129 KC KS) s m args below meth c H locs 0 0 Q (F0 m 32 ls [.int x29, .int x11.1, .int (-1 : Int32), .int v2, .int (3 : Int32), .ref (oa (13, j1))])
  obtain ⟨x32, h32, hf⟩ := bd_of hf
  obtain ⟨kc1, ks1, hf, ek1, es1⟩ := addc_of hf
  have hcs := cs_add hcs ek1 es1
  refine r_callA (k := ((13, j1) : Ky)) C hW hl lk_X0_46 (cA_X6_note hwf hj1 h32) ⟨Nat.le_of_ble_eq_true rfl, Nat.le_of_ble_eq_true rfl⟩ rfl (faB_13 hj1) rfl (As := [.int (3 : Int32), .int v2, .int (-1 : Int32), .int x11.1, .int x29]) (rest := []) rfl rfl (Nat.le_of_ble_eq_true rfl) dX0_askOne_32 (ca_le hcs) (fun aa H locs hW => ?_)
  show W p l e (rma 5 129 KC KS) s m args below meth c H locs (0 + x32.2.1) (0 + x32.2.2) Q (F0 m 35 ls [])
  refine lv_iload_n hx hb dX0_askOne_35 rfl (lv_at hl 0 rfl) ?_
  refine lv_iconst (v := 1) hx hb dX0_askOne_36 (by decide) ?_
  refine lv_icmp_ne (tgt := 44) hx hb dX0_askOne_37 (by decide) (fun c2 => ?_) (fun c2 => ?_)
  · have hf := (if_neg c2).symm.trans hf
    refine lv_iconst (v := 0) hx hb dX0_askOne_44 (by decide) ?_
    obtain ⟨eo, ek1, ek2⟩ := retA hf
    subst eo
    rw [hQ]
    exact r_zretA C hr hk hW (Or.inl rfl) (cs_end hcs).1 (cs_end hcs).2 dX0_askOne_45
  · have hf := (if_pos c2).symm.trans hf
    refine lv_iconst (v := 1) hx hb dX0_askOne_40 (by decide) ?_
    refine lv_goto (tgt := 45) hx hb dX0_askOne_41 (by decide) ?_
    obtain ⟨eo, ek1, ek2⟩ := retA hf
    subst eo
    rw [hQ]
    exact r_zretA C hr hk hW (Or.inr rfl) (cs_end hcs).1 (cs_end hcs).2 dX0_askOne_45
set_option maxHeartbeats 4000000 in
set_option maxRecDepth 100000 in
theorem cA_X0_askAll {l : Launch} {D : va_G} {tc : Nat → ClassId} {ro : Ro} {oa : Ky → Nat} {sh : Sh} {lm : Nat → Nat} {j1 : Nat} {μ : Mm} {res : Int32 × (Nat → Nat) × Mm} {KC KS : Nat} (hwf : WfS sh) (hj1 : sh 2 j1 = 1) (hf : f_X0_askAllA sh lm j1 μ = some (res, KC, KS)) : CtA l D tc ro oa yX0_askAll cX0_askAll 3 (some .int) (rma 5 129 KC KS) [.ref (oa (4, 0)), .ref (oa (13, j1))] sh lm μ (some (.int res.1)) res.2.1 res.2.2 := by
  refine CtA.of (by decide) (Nat.le_of_ble_eq_true rfl) (fun aa p e s m args below meth c A C hr hk hW ls hl => ?_)
  have hx := C.1.1
  have hb := C.1.2.1
  obtain ⟨Q, hQ⟩ : ∃ Q, Q = MQ below (Cta D tc oa (some (.int res.1)) sh res.2.1 res.2.2 A) args s (rma 5 129 KC KS).cells (rma 5 129 KC KS).slots A := ⟨_, rfl⟩
  rw [← hQ]
  have hl : lv_has ls 3 [(0, .ref (oa (4, 0))), (1, .ref (oa (13, j1)))] := hl
  have hcs : 0 + KC ≤ KC ∧ 0 + KS ≤ KS := ⟨by omega, by omega⟩
  unfold f_X0_askAllA at hf
  refine lv_aload_n hx hb dX0_askAll_0 rfl (lv_at hl 0 rfl) ?_
  refine gf_X0_9 C hW dX0_askAll_1 ?_
  refine lv_aload_n hx hb dX0_askAll_4 rfl (lv_at hl 1 rfl) ?_
  refine lv_aload_n hx hb dX0_askAll_5 rfl (lv_at hl 1 rfl) ?_
  refine gf_X0_38 C hW hj1 dX0_askAll_6 ?_
  obtain ⟨x9, h9, hf⟩ := bd_of hf
  refine r_callV (k := ((3, 0) : Ky)) C hW hl lk_X0_64 (c_X4_sayWhoIsSure hwf hj1 (cex_st hj1 (by decide)) h9) ⟨rfl, rfl⟩ ⟨Nat.le_of_ble_eq_true rfl, Nat.le_of_ble_eq_true rfl⟩ rfl rfl rfl (As := [.ref (oa (13, j1)), .ref (oa (11, 15 + 5 * j1 + 2))]) (rest := []) rfl rfl (Nat.le_of_ble_eq_true rfl) dX0_askAll_9 (ca_le hcs) (fun H locs hW => ?_)
  show W p l e (rma 5 129 KC KS) s m args below meth c H locs 0 0 Q (F0 m 12 ls [])
  refine lv_aload_n hx hb dX0_askAll_12 rfl (lv_at hl 0 rfl) ?_
  refine lv_aload_n hx hb dX0_askAll_13 rfl (lv_at hl 1 rfl) ?_
  obtain ⟨x14, h14, hf⟩ := bd_of hf
  refine r_callV (k := ((4, 0) : Ky)) C hW hl lk_X0_60 (c_X0_heardByAll hwf hj1 h14) ⟨rfl, rfl⟩ ⟨Nat.le_of_ble_eq_true rfl, Nat.le_of_ble_eq_true rfl⟩ rfl rfl rfl (As := [.ref (oa (13, j1))]) (rest := []) rfl rfl (Nat.le_of_ble_eq_true rfl) dX0_askAll_14 (ca_le hcs) (fun H locs hW => ?_)
  show W p l e (rma 5 129 KC KS) s m args below meth c H locs 0 0 Q (F0 m 17 ls [.int x14.1])
  refine lv_istore_n (lv' := [(2, .int x14.1), (0, .ref (oa (4, 0))), (1, .ref (oa (13, j1)))]) hx hb dX0_askAll_17 rfl hl (by decide) rfl (fun ls hl => ?_)
  refine lv_aload_n hx hb dX0_askAll_18 rfl (lv_at hl 2 rfl) ?_
  refine lv_dup hx hb dX0_askAll_19 rfl ?_
  refine gf_X0_68 C hW hj1 dX0_askAll_20 ?_
  refine lv_iconst (v := 1) hx hb dX0_askAll_23 (by decide) ?_
  refine lv_iadd hx hb dX0_askAll_24 ?_
  refine pf_X0_68 C hW hj1 dX0_askAll_25 (fun H locs hW => ?_)
  refine lv_aload_n hx hb dX0_askAll_28 rfl (lv_at hl 2 rfl) ?_
  refine lv_iconst (v := 4) hx hb dX0_askAll_29 (by decide) ?_
  refine lv_iconst (v := -1) hx hb dX0_askAll_30 (by decide) ?_
  refine lv_iconst (v := -1) hx hb dX0_askAll_31 (by decide) ?_
  refine lv_iload_n hx hb dX0_askAll_32 rfl (lv_at hl 0 rfl) ?_
  refine lv_aload_n hx hb dX0_askAll_33 rfl (lv_at hl 1 rfl) ?_
  refine gf_X0_9 C hW dX0_askAll_34 ?_
  refine lv_aload_n hx hb dX0_askAll_37 rfl (lv_at hl 2 rfl) ?_
  refine lv_aload_n hx hb dX0_askAll_38 rfl (lv_at hl 2 rfl) ?_
  refine gf_X0_38 C hW hj1 dX0_askAll_39 ?_
  obtain ⟨x42, h42, hf⟩ := bd_of hf
  refine r_callV (k := ((3, 0) : Ky)) C hW hl lk_X0_42 (c_X4_sureBits hwf hj1 (cex_st hj1 (by decide)) h42) ⟨rfl, rfl⟩ ⟨Nat.le_of_ble_eq_true rfl, Nat.le_of_ble_eq_true rfl⟩ rfl rfl rfl (As := [.ref (oa (13, j1)), .ref (oa (11, 15 + 5 * j1 + 2))]) (rest := [.int x14.1, .int (-1 : Int32), .int (-1 : Int32), .int (4 : Int32), .ref (oa (13, j1))]) rfl rfl (Nat.le_of_ble_eq_true rfl) dX0_askAll_42 (ca_le hcs) (fun H locs hW => ?_)
  show W p l e (rma 5 129 KC KS) s m args below meth c H locs 0 0 Q (F0 m 45 ls [.int x42, .int x14.1, .int (-1 : Int32), .int (-1 : Int32), .int (4 : Int32), .ref (oa (13, j1))])
  obtain ⟨x45, h45, hf⟩ := bd_of hf
  obtain ⟨kc1, ks1, hf, ek1, es1⟩ := addc_of hf
  have hcs := cs_add hcs ek1 es1
  refine r_callA (k := ((13, j1) : Ky)) C hW hl lk_X0_46 (cA_X6_note hwf hj1 h45) ⟨Nat.le_of_ble_eq_true rfl, Nat.le_of_ble_eq_true rfl⟩ rfl (faB_13 hj1) rfl (As := [.int (4 : Int32), .int (-1 : Int32), .int (-1 : Int32), .int x14.1, .int x42]) (rest := []) rfl rfl (Nat.le_of_ble_eq_true rfl) dX0_askAll_45 (ca_le hcs) (fun aa H locs hW => ?_)
  show W p l e (rma 5 129 KC KS) s m args below meth c H locs (0 + x45.2.1) (0 + x45.2.2) Q (F0 m 48 ls [])
  refine lv_iload_n hx hb dX0_askAll_48 rfl (lv_at hl 0 rfl) ?_
  obtain ⟨eo, ek1, ek2⟩ := retA hf
  subst eo
  rw [hQ]
  exact r_iretA C hr hk hW (cs_end hcs).1 (cs_end hcs).2 dX0_askAll_49
set_option maxHeartbeats 4000000 in
set_option maxRecDepth 100000 in
theorem cA_X0_readOut {l : Launch} {D : va_G} {tc : Nat → ClassId} {ro : Ro} {oa : Ky → Nat} {sh : Sh} {lm : Nat → Nat} {j1 : Nat} {μ : Mm} {v2 : Int32} {res : Int32 × (Nat → Nat) × Mm} {KC KS : Nat} (hwf : WfS sh) (hj1 : sh 2 j1 = 1) (hf : f_X0_readOutA sh lm j1 μ v2 = some (res, KC, KS)) : CtA l D tc ro oa yX0_readOut cX0_readOut 4 (some .int) (rma 4 129 KC KS) [.ref (oa (4, 0)), .ref (oa (13, j1)), .int v2] sh lm μ (some (.int res.1)) res.2.1 res.2.2 := by
  refine CtA.of (by decide) (Nat.le_of_ble_eq_true rfl) (fun aa p e s m args below meth c A C hr hk hW ls hl => ?_)
  have hx := C.1.1
  have hb := C.1.2.1
  obtain ⟨Q, hQ⟩ : ∃ Q, Q = MQ below (Cta D tc oa (some (.int res.1)) sh res.2.1 res.2.2 A) args s (rma 4 129 KC KS).cells (rma 4 129 KC KS).slots A := ⟨_, rfl⟩
  rw [← hQ]
  have hl : lv_has ls 4 [(0, .ref (oa (4, 0))), (1, .ref (oa (13, j1))), (2, .int v2)] := hl
  have hcs : 0 + KC ≤ KC ∧ 0 + KS ≤ KS := ⟨by omega, by omega⟩
  unfold f_X0_readOutA at hf
  refine lv_aload_n hx hb dX0_readOut_0 rfl (lv_at hl 0 rfl) ?_
  refine gf_X0_9 C hW dX0_readOut_1 ?_
  refine lv_aload_n hx hb dX0_readOut_4 rfl (lv_at hl 1 rfl) ?_
  refine lv_iload_n hx hb dX0_readOut_5 rfl (lv_at hl 2 rfl) ?_
  obtain ⟨x6, h6, hf⟩ := bd_of hf
  refine r_callV (k := ((3, 0) : Ky)) C hW hl lk_X0_71 (c_X4_sayNotice hwf hj1 h6) ⟨rfl, rfl⟩ ⟨Nat.le_of_ble_eq_true rfl, Nat.le_of_ble_eq_true rfl⟩ rfl rfl rfl (As := [.ref (oa (13, j1)), .int v2]) (rest := []) rfl rfl (Nat.le_of_ble_eq_true rfl) dX0_readOut_6 (ca_le hcs) (fun H locs hW => ?_)
  show W p l e (rma 4 129 KC KS) s m args below meth c H locs 0 0 Q (F0 m 9 ls [])
  refine lv_aload_n hx hb dX0_readOut_9 rfl (lv_at hl 0 rfl) ?_
  refine lv_aload_n hx hb dX0_readOut_10 rfl (lv_at hl 1 rfl) ?_
  obtain ⟨x11, h11, hf⟩ := bd_of hf
  refine r_callV (k := ((4, 0) : Ky)) C hW hl lk_X0_60 (c_X0_heardByAll hwf hj1 h11) ⟨rfl, rfl⟩ ⟨Nat.le_of_ble_eq_true rfl, Nat.le_of_ble_eq_true rfl⟩ rfl rfl rfl (As := [.ref (oa (13, j1))]) (rest := []) rfl rfl (Nat.le_of_ble_eq_true rfl) dX0_readOut_11 (ca_le hcs) (fun H locs hW => ?_)
  show W p l e (rma 4 129 KC KS) s m args below meth c H locs 0 0 Q (F0 m 14 ls [.int x11.1])
  refine lv_istore_n (lv' := [(3, .int x11.1), (0, .ref (oa (4, 0))), (1, .ref (oa (13, j1))), (2, .int v2)]) hx hb dX0_readOut_14 rfl hl (by decide) rfl (fun ls hl => ?_)
  refine lv_aload_n hx hb dX0_readOut_15 rfl (lv_at hl 2 rfl) ?_
  refine lv_iconst (v := 5) hx hb dX0_readOut_16 (by decide) ?_
  refine lv_iload_n hx hb dX0_readOut_17 rfl (lv_at hl 3 rfl) ?_
  refine lv_iconst (v := -1) hx hb dX0_readOut_18 (by decide) ?_
  refine lv_iload_n hx hb dX0_readOut_19 rfl (lv_at hl 0 rfl) ?_
  refine lv_aload_n hx hb dX0_readOut_20 rfl (lv_at hl 1 rfl) ?_
  refine gf_X0_9 C hW dX0_readOut_21 ?_
  refine lv_aload_n hx hb dX0_readOut_24 rfl (lv_at hl 2 rfl) ?_
  refine lv_aload_n hx hb dX0_readOut_25 rfl (lv_at hl 2 rfl) ?_
  refine gf_X0_38 C hW hj1 dX0_readOut_26 ?_
  obtain ⟨x29, h29, hf⟩ := bd_of hf
  refine r_callV (k := ((3, 0) : Ky)) C hW hl lk_X0_42 (c_X4_sureBits hwf hj1 (cex_st hj1 (by decide)) h29) ⟨rfl, rfl⟩ ⟨Nat.le_of_ble_eq_true rfl, Nat.le_of_ble_eq_true rfl⟩ rfl rfl rfl (As := [.ref (oa (13, j1)), .ref (oa (11, 15 + 5 * j1 + 2))]) (rest := [.int x11.1, .int (-1 : Int32), .int v2, .int (5 : Int32), .ref (oa (13, j1))]) rfl rfl (Nat.le_of_ble_eq_true rfl) dX0_readOut_29 (ca_le hcs) (fun H locs hW => ?_)
  show W p l e (rma 4 129 KC KS) s m args below meth c H locs 0 0 Q (F0 m 32 ls [.int x29, .int x11.1, .int (-1 : Int32), .int v2, .int (5 : Int32), .ref (oa (13, j1))])
  obtain ⟨x32, h32, hf⟩ := bd_of hf
  obtain ⟨kc1, ks1, hf, ek1, es1⟩ := addc_of hf
  have hcs := cs_add hcs ek1 es1
  refine r_callA (k := ((13, j1) : Ky)) C hW hl lk_X0_46 (cA_X6_note hwf hj1 h32) ⟨Nat.le_of_ble_eq_true rfl, Nat.le_of_ble_eq_true rfl⟩ rfl (faB_13 hj1) rfl (As := [.int (5 : Int32), .int v2, .int (-1 : Int32), .int x11.1, .int x29]) (rest := []) rfl rfl (Nat.le_of_ble_eq_true rfl) dX0_readOut_32 (ca_le hcs) (fun aa H locs hW => ?_)
  show W p l e (rma 4 129 KC KS) s m args below meth c H locs (0 + x32.2.1) (0 + x32.2.2) Q (F0 m 35 ls [])
  refine lv_iload_n hx hb dX0_readOut_35 rfl (lv_at hl 0 rfl) ?_
  obtain ⟨eo, ek1, ek2⟩ := retA hf
  subst eo
  rw [hQ]
  exact r_iretA C hr hk hW (cs_end hcs).1 (cs_end hcs).2 dX0_readOut_36
set_option maxHeartbeats 4000000 in
set_option maxRecDepth 100000 in
theorem cA_X0_claimMany {l : Launch} {D : va_G} {tc : Nat → ClassId} {ro : Ro} {oa : Ky → Nat} {sh : Sh} {lm : Nat → Nat} {j1 : Nat} {μ : Mm} {v2 v3 : Int32} {res : Int32 × (Nat → Nat) × Mm} {KC KS : Nat} (hwf : WfS sh) (hj1 : sh 2 j1 = 1) (hf : f_X0_claimManyA sh lm j1 μ v2 v3 = some (res, KC, KS)) : CtA l D tc ro oa yX0_claimMany cX0_claimMany 4 (some .int) (rma 4 129 KC KS) [.ref (oa (4, 0)), .ref (oa (13, j1)), .int v2, .int v3] sh lm μ (some (.int res.1)) res.2.1 res.2.2 := by
  refine CtA.of (by decide) (Nat.le_of_ble_eq_true rfl) (fun aa p e s m args below meth c A C hr hk hW ls hl => ?_)
  have hx := C.1.1
  have hb := C.1.2.1
  obtain ⟨Q, hQ⟩ : ∃ Q, Q = MQ below (Cta D tc oa (some (.int res.1)) sh res.2.1 res.2.2 A) args s (rma 4 129 KC KS).cells (rma 4 129 KC KS).slots A := ⟨_, rfl⟩
  rw [← hQ]
  have hl : lv_has ls 4 [(0, .ref (oa (4, 0))), (1, .ref (oa (13, j1))), (2, .int v2), (3, .int v3)] := hl
  have hcs : 0 + KC ≤ KC ∧ 0 + KS ≤ KS := ⟨by omega, by omega⟩
  unfold f_X0_claimManyA at hf
  refine lv_aload_n hx hb dX0_claimMany_0 rfl (lv_at hl 0 rfl) ?_
  refine gf_X0_9 C hW dX0_claimMany_1 ?_
  refine lv_aload_n hx hb dX0_claimMany_4 rfl (lv_at hl 1 rfl) ?_
  refine lv_iload_n hx hb dX0_claimMany_5 rfl (lv_at hl 2 rfl) ?_
  refine lv_iload_n hx hb dX0_claimMany_6 rfl (lv_at hl 3 rfl) ?_
  refine lv_iconst (v := 1) hx hb dX0_claimMany_7 (by decide) ?_
  obtain ⟨x8, h8, hf⟩ := bd_of hf
  refine r_callV (k := ((3, 0) : Ky)) C hW hl lk_X0_74 (c_X4_sayWhetherMany hwf hj1 h8) ⟨rfl, rfl⟩ ⟨Nat.le_of_ble_eq_true rfl, Nat.le_of_ble_eq_true rfl⟩ rfl rfl rfl (As := [.ref (oa (13, j1)), .int v2, .int v3, .int (1 : Int32)]) (rest := []) rfl rfl (Nat.le_of_ble_eq_true rfl) dX0_claimMany_8 (ca_le hcs) (fun H locs hW => ?_)
  show W p l e (rma 4 129 KC KS) s m args below meth c H locs 0 0 Q (F0 m 11 ls [])
  refine lv_aload_n hx hb dX0_claimMany_11 rfl (lv_at hl 0 rfl) ?_
  refine lv_aload_n hx hb dX0_claimMany_12 rfl (lv_at hl 1 rfl) ?_
  obtain ⟨x13, h13, hf⟩ := bd_of hf
  refine r_callV (k := ((4, 0) : Ky)) C hW hl lk_X0_60 (c_X0_heardByAll hwf hj1 h13) ⟨rfl, rfl⟩ ⟨Nat.le_of_ble_eq_true rfl, Nat.le_of_ble_eq_true rfl⟩ rfl rfl rfl (As := [.ref (oa (13, j1))]) (rest := []) rfl rfl (Nat.le_of_ble_eq_true rfl) dX0_claimMany_13 (ca_le hcs) (fun H locs hW => ?_)
  show W p l e (rma 4 129 KC KS) s m args below meth c H locs 0 0 Q (F0 m 16 ls [.int x13.1])
  refine lv_pop hx hb dX0_claimMany_16 rfl ?_
  refine lv_aload_n hx hb dX0_claimMany_17 rfl (lv_at hl 1 rfl) ?_
  refine lv_bipush (v := 6) hx hb dX0_claimMany_18 (by decide) ?_
  refine lv_iload_n hx hb dX0_claimMany_20 rfl (lv_at hl 3 rfl) ?_
  refine lv_iconst (v := -1) hx hb dX0_claimMany_21 (by decide) ?_
  refine lv_iload_n hx hb dX0_claimMany_22 rfl (lv_at hl 2 rfl) ?_
  refine lv_aload_n hx hb dX0_claimMany_23 rfl (lv_at hl 0 rfl) ?_
  refine gf_X0_9 C hW dX0_claimMany_24 ?_
  refine lv_aload_n hx hb dX0_claimMany_27 rfl (lv_at hl 1 rfl) ?_
  refine lv_aload_n hx hb dX0_claimMany_28 rfl (lv_at hl 1 rfl) ?_
  refine gf_X0_38 C hW hj1 dX0_claimMany_29 ?_
  obtain ⟨x32, h32, hf⟩ := bd_of hf
  refine r_callV (k := ((3, 0) : Ky)) C hW hl lk_X0_42 (c_X4_sureBits hwf hj1 (cex_st hj1 (by decide)) h32) ⟨rfl, rfl⟩ ⟨Nat.le_of_ble_eq_true rfl, Nat.le_of_ble_eq_true rfl⟩ rfl rfl rfl (As := [.ref (oa (13, j1)), .ref (oa (11, 15 + 5 * j1 + 2))]) (rest := [.int v2, .int (-1 : Int32), .int v3, .int (6 : Int32), .ref (oa (13, j1))]) rfl rfl (Nat.le_of_ble_eq_true rfl) dX0_claimMany_32 (ca_le hcs) (fun H locs hW => ?_)
  show W p l e (rma 4 129 KC KS) s m args below meth c H locs 0 0 Q (F0 m 35 ls [.int x32, .int v2, .int (-1 : Int32), .int v3, .int (6 : Int32), .ref (oa (13, j1))])
  obtain ⟨x35, h35, hf⟩ := bd_of hf
  obtain ⟨kc1, ks1, hf, ek1, es1⟩ := addc_of hf
  have hcs := cs_add hcs ek1 es1
  refine r_callA (k := ((13, j1) : Ky)) C hW hl lk_X0_46 (cA_X6_note hwf hj1 h35) ⟨Nat.le_of_ble_eq_true rfl, Nat.le_of_ble_eq_true rfl⟩ rfl (faB_13 hj1) rfl (As := [.int (6 : Int32), .int v3, .int (-1 : Int32), .int v2, .int x32]) (rest := []) rfl rfl (Nat.le_of_ble_eq_true rfl) dX0_claimMany_35 (ca_le hcs) (fun aa H locs hW => ?_)
  show W p l e (rma 4 129 KC KS) s m args below meth c H locs (0 + x35.2.1) (0 + x35.2.2) Q (F0 m 38 ls [])
  refine lv_aload_n hx hb dX0_claimMany_38 rfl (lv_at hl 1 rfl) ?_
  refine lv_aload_n hx hb dX0_claimMany_39 rfl (lv_at hl 1 rfl) ?_
  refine gf_X0_21 C hW hj1 dX0_claimMany_40 ?_
  refine lv_iload_n hx hb dX0_claimMany_43 rfl (lv_at hl 3 rfl) ?_
  obtain ⟨x44, h44, hf⟩ := bd_of hf
  refine r_callV (k := ((13, j1) : Ky)) C hW hl lk_X0_78 (c_X6_many hwf hj1 h44) ⟨rfl, rfl⟩ ⟨Nat.le_of_ble_eq_true rfl, Nat.le_of_ble_eq_true rfl⟩ rfl (faB_13 hj1) rfl (As := [.int (x35.1.2.2 (13, j1) 3), .int v3]) (rest := []) rfl rfl (Nat.le_of_ble_eq_true rfl) dX0_claimMany_44 (ca_le hcs) (fun H locs hW => ?_)
  show W p l e (rma 4 129 KC KS) s m args below meth c H locs (0 + x35.2.1) (0 + x35.2.2) Q (F0 m 47 ls [.int x44])
  obtain ⟨eo, ek1, ek2⟩ := retA hf
  subst eo
  rw [hQ]
  exact r_iretA C hr hk hW (cs_end hcs).1 (cs_end hcs).2 dX0_claimMany_47
set_option maxHeartbeats 4000000 in
set_option maxRecDepth 100000 in
theorem cA_X0_queryOne {l : Launch} {D : va_G} {tc : Nat → ClassId} {ro : Ro} {oa : Ky → Nat} {sh : Sh} {lm : Nat → Nat} {j1 : Nat} {μ : Mm} {v2 v3 v4 : Int32} {res : Int32 × (Nat → Nat) × Mm} {KC KS : Nat} (hwf : WfS sh) (hj1 : sh 2 j1 = 1) (hf : f_X0_queryOneA sh lm j1 μ v2 v3 v4 = some (res, KC, KS)) : CtA l D tc ro oa yX0_queryOne cX0_queryOne 6 (some .int) (rma 5 129 KC KS) [.ref (oa (4, 0)), .ref (oa (13, j1)), .int v2, .int v3, .int v4] sh lm μ (some (.int res.1)) res.2.1 res.2.2 := by
  refine CtA.of (by decide) (Nat.le_of_ble_eq_true rfl) (fun aa p e s m args below meth c A C hr hk hW ls hl => ?_)
  have hx := C.1.1
  have hb := C.1.2.1
  obtain ⟨Q, hQ⟩ : ∃ Q, Q = MQ below (Cta D tc oa (some (.int res.1)) sh res.2.1 res.2.2 A) args s (rma 5 129 KC KS).cells (rma 5 129 KC KS).slots A := ⟨_, rfl⟩
  rw [← hQ]
  have hl : lv_has ls 6 [(0, .ref (oa (4, 0))), (1, .ref (oa (13, j1))), (2, .int v2), (3, .int v3), (4, .int v4)] := hl
  have hcs : 0 + KC ≤ KC ∧ 0 + KS ≤ KS := ⟨by omega, by omega⟩
  unfold f_X0_queryOneA at hf
  refine lv_aload_n hx hb dX0_queryOne_0 rfl (lv_at hl 0 rfl) ?_
  refine gf_X0_9 C hW dX0_queryOne_1 ?_
  refine lv_aload_n hx hb dX0_queryOne_4 rfl (lv_at hl 1 rfl) ?_
  refine lv_aload_n hx hb dX0_queryOne_5 rfl (lv_at hl 1 rfl) ?_
  refine gf_X0_38 C hW hj1 dX0_queryOne_6 ?_
  refine lv_iload_n hx hb dX0_queryOne_9 rfl (lv_at hl 2 rfl) ?_
  refine lv_iload_n hx hb dX0_queryOne_10 rfl (lv_at hl 3 rfl) ?_
  refine lv_iload hx hb dX0_queryOne_11 (lv_at hl 4 rfl) ?_
  obtain ⟨x13, h13, hf⟩ := bd_of hf
  refine r_callV (k := ((3, 0) : Ky)) C hW hl lk_X0_81 (c_X4_sayAnswer hwf hj1 (cex_st hj1 (by decide)) h13) ⟨rfl, rfl⟩ ⟨Nat.le_of_ble_eq_true rfl, Nat.le_of_ble_eq_true rfl⟩ rfl rfl rfl (As := [.ref (oa (13, j1)), .ref (oa (11, 15 + 5 * j1 + 2)), .int v2, .int v3, .int v4]) (rest := []) rfl rfl (Nat.le_of_ble_eq_true rfl) dX0_queryOne_13 (ca_le hcs) (fun H locs hW => ?_)
  show W p l e (rma 5 129 KC KS) s m args below meth c H locs 0 0 Q (F0 m 16 ls [])
  refine lv_aload_n hx hb dX0_queryOne_16 rfl (lv_at hl 0 rfl) ?_
  refine lv_aload_n hx hb dX0_queryOne_17 rfl (lv_at hl 1 rfl) ?_
  obtain ⟨x18, h18, hf⟩ := bd_of hf
  refine r_callV (k := ((4, 0) : Ky)) C hW hl lk_X0_60 (c_X0_heardByAll hwf hj1 h18) ⟨rfl, rfl⟩ ⟨Nat.le_of_ble_eq_true rfl, Nat.le_of_ble_eq_true rfl⟩ rfl rfl rfl (As := [.ref (oa (13, j1))]) (rest := []) rfl rfl (Nat.le_of_ble_eq_true rfl) dX0_queryOne_18 (ca_le hcs) (fun H locs hW => ?_)
  show W p l e (rma 5 129 KC KS) s m args below meth c H locs 0 0 Q (F0 m 21 ls [.int x18.1])
  refine lv_istore (lv' := [(5, .int x18.1), (0, .ref (oa (4, 0))), (1, .ref (oa (13, j1))), (2, .int v2), (3, .int v3), (4, .int v4)]) hx hb dX0_queryOne_21 hl (by decide) rfl (fun ls hl => ?_)
  refine lv_aload_n hx hb dX0_queryOne_23 rfl (lv_at hl 2 rfl) ?_
  refine lv_bipush (v := 7) hx hb dX0_queryOne_24 (by decide) ?_
  refine lv_iload_n hx hb dX0_queryOne_26 rfl (lv_at hl 3 rfl) ?_
  refine lv_iload_n hx hb dX0_queryOne_27 rfl (lv_at hl 4 rfl) ?_
  refine lv_iload hx hb dX0_queryOne_28 (lv_at hl 0 rfl) ?_
  refine lv_aload_n hx hb dX0_queryOne_30 rfl (lv_at hl 1 rfl) ?_
  refine gf_X0_9 C hW dX0_queryOne_31 ?_
  refine lv_aload_n hx hb dX0_queryOne_34 rfl (lv_at hl 2 rfl) ?_
  refine lv_aload_n hx hb dX0_queryOne_35 rfl (lv_at hl 2 rfl) ?_
  refine gf_X0_38 C hW hj1 dX0_queryOne_36 ?_
  obtain ⟨x39, h39, hf⟩ := bd_of hf
  refine r_callV (k := ((3, 0) : Ky)) C hW hl lk_X0_42 (c_X4_sureBits hwf hj1 (cex_st hj1 (by decide)) h39) ⟨rfl, rfl⟩ ⟨Nat.le_of_ble_eq_true rfl, Nat.le_of_ble_eq_true rfl⟩ rfl rfl rfl (As := [.ref (oa (13, j1)), .ref (oa (11, 15 + 5 * j1 + 2))]) (rest := [.int x18.1, .int v3, .int v2, .int (7 : Int32), .ref (oa (13, j1))]) rfl rfl (Nat.le_of_ble_eq_true rfl) dX0_queryOne_39 (ca_le hcs) (fun H locs hW => ?_)
  show W p l e (rma 5 129 KC KS) s m args below meth c H locs 0 0 Q (F0 m 42 ls [.int x39, .int x18.1, .int v3, .int v2, .int (7 : Int32), .ref (oa (13, j1))])
  obtain ⟨x42, h42, hf⟩ := bd_of hf
  obtain ⟨kc1, ks1, hf, ek1, es1⟩ := addc_of hf
  have hcs := cs_add hcs ek1 es1
  refine r_callA (k := ((13, j1) : Ky)) C hW hl lk_X0_46 (cA_X6_note hwf hj1 h42) ⟨Nat.le_of_ble_eq_true rfl, Nat.le_of_ble_eq_true rfl⟩ rfl (faB_13 hj1) rfl (As := [.int (7 : Int32), .int v2, .int v3, .int x18.1, .int x39]) (rest := []) rfl rfl (Nat.le_of_ble_eq_true rfl) dX0_queryOne_42 (ca_le hcs) (fun aa H locs hW => ?_)
  show W p l e (rma 5 129 KC KS) s m args below meth c H locs (0 + x42.2.1) (0 + x42.2.2) Q (F0 m 45 ls [])
  refine lv_iload hx hb dX0_queryOne_45 (lv_at hl 0 rfl) ?_
  obtain ⟨eo, ek1, ek2⟩ := retA hf
  subst eo
  rw [hQ]
  exact r_iretA C hr hk hW (cs_end hcs).1 (cs_end hcs).2 dX0_queryOne_47
set_option maxHeartbeats 4000000 in
set_option maxRecDepth 100000 in
theorem cA_X0_strollBy {l : Launch} {D : va_G} {tc : Nat → ClassId} {ro : Ro} {oa : Ky → Nat} {sh : Sh} {lm : Nat → Nat} {j1 : Nat} {μ : Mm} {v2 : Int32} {res : Int32 × (Nat → Nat) × Mm} {KC KS : Nat} (hwf : WfS sh) (hj1 : sh 2 j1 = 1) (hf : f_X0_strollByA sh lm j1 μ v2 = some (res, KC, KS)) : CtA l D tc ro oa yX0_strollBy cX0_strollBy 7 (some .int) (rma 6 155 KC KS) [.ref (oa (4, 0)), .ref (oa (13, j1)), .int v2] sh lm μ (some (.int res.1)) res.2.1 res.2.2 := by
  refine CtA.of (by decide) (Nat.le_of_ble_eq_true rfl) (fun aa p e s m args below meth c A C hr hk hW ls hl => ?_)
  have hx := C.1.1
  have hb := C.1.2.1
  obtain ⟨Q, hQ⟩ : ∃ Q, Q = MQ below (Cta D tc oa (some (.int res.1)) sh res.2.1 res.2.2 A) args s (rma 6 155 KC KS).cells (rma 6 155 KC KS).slots A := ⟨_, rfl⟩
  rw [← hQ]
  have hl : lv_has ls 7 [(0, .ref (oa (4, 0))), (1, .ref (oa (13, j1))), (2, .int v2)] := hl
  have hcs : 0 + KC ≤ KC ∧ 0 + KS ≤ KS := ⟨by omega, by omega⟩
  unfold f_X0_strollByA at hf
  refine lv_aload_n hx hb dX0_strollBy_0 rfl (lv_at hl 1 rfl) ?_
  refine gf_X0_31 C hW hj1 dX0_strollBy_1 ?_
  refine lv_iconst (v := 1) hx hb dX0_strollBy_4 (by decide) ?_
  refine lv_icmp_ge (tgt := 10) hx hb dX0_strollBy_5 (by decide) (fun c1 => ?_) (fun c1 => ?_)
  · have hf := (if_pos c1).symm.trans hf
    refine lv_iconst (v := 0) hx hb dX0_strollBy_10 (by decide) ?_
    refine lv_istore_n (lv' := [(3, .int (0 : Int32)), (0, .ref (oa (4, 0))), (1, .ref (oa (13, j1))), (2, .int v2)]) hx hb dX0_strollBy_11 rfl hl (by decide) rfl (fun ls hl => ?_)
    refine lv_iconst (v := 0) hx hb dX0_strollBy_12 (by decide) ?_
    refine lv_istore (lv' := [(4, .int (0 : Int32)), (3, .int (0 : Int32)), (0, .ref (oa (4, 0))), (1, .ref (oa (13, j1))), (2, .int v2)]) hx hb dX0_strollBy_13 hl (by decide) rfl (fun ls hl => ?_)
    have L15 : ∀ (lm : Nat → Nat) (aa : Nat → Nat) (μ : Mm) (v3 v4 : Int32) (cells slots kc ks : Nat) (H : Heap) (locs : List Loc) (ls : Array Slot), WhC (fun z : (Nat → Nat) × Mm × Int32 × Int32 => f_X0_strollByA_L15 sh z.1 j1 v2 z.2.1 z.2.2.1 z.2.2.2) (lm, μ, v3, v4) = some (res, kc, ks) → cells + kc ≤ KC ∧ slots + ks ≤ KS → Wd D (faB oa aa sh) (feB tc oa aa sh lm) A s.heap μ H locs → lv_has ls 7 [(0, .ref (oa (4, 0))), (1, .ref (oa (13, j1))), (2, .int v2), (3, .int v3), (4, .int v4)] → W p l e (rma 6 155 KC KS) s m args below meth c H locs cells slots Q (F0 m 15 ls []) := by
      intro lm aa μ v3 v4 cells slots kc ks H locs ls hf hcs hW hl
      refine WhC_rule hf (fun (z : (Nat → Nat) × Mm × Int32 × Int32) (kc ks : Nat) => ∀ (aa : Nat → Nat) (cells slots : Nat) (H : Heap) (locs : List Loc) (ls : Array Slot), cells + kc ≤ KC ∧ slots + ks ≤ KS → Wd D (faB oa aa sh) (feB tc oa aa sh z.1) A s.heap z.2.1 H locs → lv_has ls 7 [(0, .ref (oa (4, 0))), (1, .ref (oa (13, j1))), (2, .int v2), (3, .int z.2.2.1), (4, .int z.2.2.2)] → W p l e (rma 6 155 KC KS) s m args below meth c H locs cells slots Q (F0 m 15 ls [])) (fun z o1 kc ks K1 K2 hf Kl1 Kr1 => ?_) _ _ _ _ _ _ hcs hW hl
      obtain ⟨lm, μ, v3, v4⟩ := z
      intro aa cells slots H locs ls hcs hW hl
      have hf : f_X0_strollByA_L15 sh lm j1 v2 μ v3 v4 = some (o1, kc, ks) := hf
      unfold f_X0_strollByA_L15 at hf
      have hW : Wd D (faB oa aa sh) (feB tc oa aa sh lm) A s.heap μ H locs := hW
      have hl : lv_has ls 7 [(0, .ref (oa (4, 0))), (1, .ref (oa (13, j1))), (2, .int v2), (3, .int v3), (4, .int v4)] := hl
      refine lv_iload hx hb dX0_strollBy_15 (lv_at hl 4 rfl) ?_
      refine lv_iload_n hx hb dX0_strollBy_17 rfl (lv_at hl 2 rfl) ?_
      refine lv_icmp_ge (tgt := 81) hx hb dX0_strollBy_18 (by decide) (fun c2 => ?_) (fun c2 => ?_)
      · have hf := (if_pos c2).symm.trans hf
        obtain ⟨x9003, hf, hx9003⟩ := mapc_of hf
        obtain ⟨e9003, hK1, hK2⟩ := Kr1 _ hx9003
        have e9003 := e9003.symm
        subst e9003
        have hcs := cs_out hcs hK1 hK2
        refine lv_iload_n hx hb dX0_strollBy_81 rfl (lv_at hl 3 rfl) ?_
        obtain ⟨eo, ek1, ek2⟩ := retA hf
        subst eo
        rw [hQ]
        exact r_iretA C hr hk hW (cs_end hcs).1 (cs_end hcs).2 dX0_strollBy_82
      · have hf := (if_neg c2).symm.trans hf
        refine lv_aload_n hx hb dX0_strollBy_21 rfl (lv_at hl 1 rfl) ?_
        obtain ⟨x22, h22, hf⟩ := bd_of hf
        refine r_callV (k := ((13, j1) : Ky)) C hW hl lk_X0_85 (c_X6_draw hwf hj1 h22) ⟨rfl, rfl⟩ ⟨Nat.le_of_ble_eq_true rfl, Nat.le_of_ble_eq_true rfl⟩ rfl (faB_13 hj1) rfl (As := []) (rest := []) rfl rfl (Nat.le_of_ble_eq_true rfl) dX0_strollBy_22 (ca_le hcs) (fun H locs hW => ?_)
        show W p l e (rma 6 155 KC KS) s m args below meth c H locs cells slots Q (F0 m 25 ls [.int x22.1])
        refine lv_aload_n hx hb dX0_strollBy_25 rfl (lv_at hl 1 rfl) ?_
        refine gf_X0_31 C hW hj1 dX0_strollBy_26 ?_
        obtain ⟨hz4, hf⟩ := cd_of hf
        refine lv_irem hx hb dX0_strollBy_29 hz4 ?_
        refine lv_istore (lv' := [(5, .int (x22.1 - x22.1 / (x22.2 (13, j1) 1) * (x22.2 (13, j1) 1))), (0, .ref (oa (4, 0))), (1, .ref (oa (13, j1))), (2, .int v2), (3, .int v3), (4, .int v4)]) hx hb dX0_strollBy_30 hl (by decide) rfl (fun ls hl => ?_)
        refine lv_aload_n hx hb dX0_strollBy_32 rfl (lv_at hl 2 rfl) ?_
        obtain ⟨x33, h33, hf⟩ := bd_of hf
        refine r_callV (k := ((13, j1) : Ky)) C hW hl lk_X0_85 (c_X6_draw hwf hj1 h33) ⟨rfl, rfl⟩ ⟨Nat.le_of_ble_eq_true rfl, Nat.le_of_ble_eq_true rfl⟩ rfl (faB_13 hj1) rfl (As := []) (rest := []) rfl rfl (Nat.le_of_ble_eq_true rfl) dX0_strollBy_33 (ca_le hcs) (fun H locs hW => ?_)
        show W p l e (rma 6 155 KC KS) s m args below meth c H locs cells slots Q (F0 m 36 ls [.int x33.1])
        refine lv_aload_n hx hb dX0_strollBy_36 rfl (lv_at hl 2 rfl) ?_
        refine gf_X0_31 C hW hj1 dX0_strollBy_37 ?_
        obtain ⟨hz5, hf⟩ := cd_of hf
        refine lv_irem hx hb dX0_strollBy_40 hz5 ?_
        refine lv_istore (lv' := [(6, .int (x33.1 - x33.1 / (x33.2 (13, j1) 1) * (x33.2 (13, j1) 1))), (5, .int (x22.1 - x22.1 / (x22.2 (13, j1) 1) * (x22.2 (13, j1) 1))), (0, .ref (oa (4, 0))), (1, .ref (oa (13, j1))), (2, .int v2), (3, .int v3), (4, .int v4)]) hx hb dX0_strollBy_41 hl (by decide) rfl (fun ls hl => ?_)
        refine lv_iload hx hb dX0_strollBy_43 (lv_at hl 1 rfl) ?_
        refine lv_iload hx hb dX0_strollBy_45 (lv_at hl 0 rfl) ?_
        refine lv_icmp_eq (tgt := 75) hx hb dX0_strollBy_47 (by decide) (fun c6 => ?_) (fun c6 => ?_)
        · have hf := (if_pos c6).symm.trans hf
          refine lv_iinc (v := (v4 + (1 : Int32))) (lv' := [(4, .int (v4 + (1 : Int32))), (6, .int (x33.1 - x33.1 / (x33.2 (13, j1) 1) * (x33.2 (13, j1) 1))), (5, .int (x22.1 - x22.1 / (x22.2 (13, j1) 1) * (x22.2 (13, j1) 1))), (0, .ref (oa (4, 0))), (1, .ref (oa (13, j1))), (2, .int v2), (3, .int v3)]) hx hb dX0_strollBy_75 hl (k := 6) rfl rfl (by decide) rfl (fun ls hl => ?_)
          refine lv_goto (tgt := 15) hx hb dX0_strollBy_78 (by decide) ?_
          obtain ⟨eo, ek1, ek2⟩ := retA hf
          subst eo
          exact Kl1 _ rfl _ _ _ _ _ _ (cs_in hcs ek1 ek2) hW (lv_sub hl [3, 4, 5, 6, 0] rfl)
        · have hf := (if_neg c6).symm.trans hf
          refine lv_aload_n hx hb dX0_strollBy_50 rfl (lv_at hl 3 rfl) ?_
          refine lv_iload hx hb dX0_strollBy_51 (lv_at hl 1 rfl) ?_
          refine lv_iload hx hb dX0_strollBy_53 (lv_at hl 0 rfl) ?_
          obtain ⟨x55, h55, hf⟩ := bd_of hf
          refine r_callV (k := ((13, j1) : Ky)) C hW hl lk_X0_89 (c_X6_hasSight hwf hj1 h55) ⟨rfl, rfl⟩ ⟨Nat.le_of_ble_eq_true rfl, Nat.le_of_ble_eq_true rfl⟩ rfl (faB_13 hj1) rfl (As := [.int (x22.1 - x22.1 / (x22.2 (13, j1) 1) * (x22.2 (13, j1) 1)), .int (x33.1 - x33.1 / (x33.2 (13, j1) 1) * (x33.2 (13, j1) 1))]) (rest := []) rfl rfl (Nat.le_of_ble_eq_true rfl) dX0_strollBy_55 (ca_le hcs) (fun H locs hW => ?_)
          show W p l e (rma 6 155 KC KS) s m args below meth c H locs cells slots Q (F0 m 58 ls [.int x55])
          refine lv_if_eq (tgt := 75) hx hb dX0_strollBy_58 (by decide) (fun c7 => ?_) (fun c7 => ?_)
          · have hf := (if_pos c7).symm.trans hf
            refine lv_iinc (v := (v4 + (1 : Int32))) (lv' := [(4, .int (v4 + (1 : Int32))), (6, .int (x33.1 - x33.1 / (x33.2 (13, j1) 1) * (x33.2 (13, j1) 1))), (5, .int (x22.1 - x22.1 / (x22.2 (13, j1) 1) * (x22.2 (13, j1) 1))), (0, .ref (oa (4, 0))), (1, .ref (oa (13, j1))), (2, .int v2), (3, .int v3)]) hx hb dX0_strollBy_75 hl (k := 6) rfl rfl (by decide) rfl (fun ls hl => ?_)
            refine lv_goto (tgt := 15) hx hb dX0_strollBy_78 (by decide) ?_
            obtain ⟨eo, ek1, ek2⟩ := retA hf
            subst eo
            exact Kl1 _ rfl _ _ _ _ _ _ (cs_in hcs ek1 ek2) hW (lv_sub hl [3, 4, 5, 6, 0] rfl)
          · have hf := (if_neg c7).symm.trans hf
            refine lv_aload_n hx hb dX0_strollBy_61 rfl (lv_at hl 2 rfl) ?_
            refine lv_aload_n hx hb dX0_strollBy_62 rfl (lv_at hl 3 rfl) ?_
            refine lv_iload hx hb dX0_strollBy_63 (lv_at hl 1 rfl) ?_
            refine lv_iload hx hb dX0_strollBy_65 (lv_at hl 0 rfl) ?_
            refine lv_iconst (v := 0) hx hb dX0_strollBy_67 (by decide) ?_
            obtain ⟨x68, h68, hf⟩ := bd_of hf
            obtain ⟨kc8, ks8, hf, ek8, es8⟩ := addc_of hf
            have hcs := cs_add1 hcs ek8 es8
            refine r_callA (k := ((4, 0) : Ky)) C hW hl lk_X0_93 (cA_X0_treatOne hwf hj1 h68) ⟨Nat.le_of_ble_eq_true rfl, Nat.le_of_ble_eq_true rfl⟩ rfl rfl rfl (As := [.ref (oa (13, j1)), .int (x22.1 - x22.1 / (x22.2 (13, j1) 1) * (x22.2 (13, j1) 1)), .int (x33.1 - x33.1 / (x33.2 (13, j1) 1) * (x33.2 (13, j1) 1)), .int (0 : Int32)]) (rest := []) rfl rfl (Nat.le_of_ble_eq_true rfl) dX0_strollBy_68 (ca_le hcs) (fun aa H locs hW => ?_)
            show W p l e (rma 6 155 KC KS) s m args below meth c H locs (cells + x68.2.1) (slots + x68.2.2) Q (F0 m 71 ls [.int x68.1.1])
            refine lv_pop hx hb dX0_strollBy_71 rfl ?_
            refine lv_iinc (v := (v3 + (1 : Int32))) (lv' := [(3, .int (v3 + (1 : Int32))), (6, .int (x33.1 - x33.1 / (x33.2 (13, j1) 1) * (x33.2 (13, j1) 1))), (5, .int (x22.1 - x22.1 / (x22.2 (13, j1) 1) * (x22.2 (13, j1) 1))), (0, .ref (oa (4, 0))), (1, .ref (oa (13, j1))), (2, .int v2), (4, .int v4)]) hx hb dX0_strollBy_72 hl (k := 5) rfl rfl (by decide) rfl (fun ls hl => ?_)
            refine lv_iinc (v := (v4 + (1 : Int32))) (lv' := [(4, .int (v4 + (1 : Int32))), (3, .int (v3 + (1 : Int32))), (6, .int (x33.1 - x33.1 / (x33.2 (13, j1) 1) * (x33.2 (13, j1) 1))), (5, .int (x22.1 - x22.1 / (x22.2 (13, j1) 1) * (x22.2 (13, j1) 1))), (0, .ref (oa (4, 0))), (1, .ref (oa (13, j1))), (2, .int v2)]) hx hb dX0_strollBy_75 hl (k := 6) rfl rfl (by decide) rfl (fun ls hl => ?_)
            refine lv_goto (tgt := 15) hx hb dX0_strollBy_78 (by decide) ?_
            obtain ⟨eo, ek1, ek2⟩ := retA hf
            subst eo
            exact Kl1 _ rfl _ _ _ _ _ _ (cs_in hcs ek1 ek2) hW (lv_sub hl [4, 5, 6, 1, 0] rfl)
    exact L15 _ _ μ (0 : Int32) (0 : Int32) _ _ _ _ _ _ _ hf hcs hW (lv_sub hl [2, 3, 4, 1, 0] rfl)
  · have hf := (if_neg c1).symm.trans hf
    refine lv_iconst (v := 0) hx hb dX0_strollBy_8 (by decide) ?_
    obtain ⟨eo, ek1, ek2⟩ := retA hf
    subst eo
    rw [hQ]
    exact r_iretA C hr hk hW (cs_end hcs).1 (cs_end hcs).2 dX0_strollBy_9
set_option maxHeartbeats 4000000 in
set_option maxRecDepth 100000 in
theorem cA_X9_readPerson {l : Launch} {D : va_G} {tc : Nat → ClassId} {ro : Ro} {oa : Ky → Nat} {sh : Sh} {lm : Nat → Nat} {μ : Mm} {v1 : Int32} {res : Int32 × (Nat → Nat) × Mm} {KC KS : Nat} (hwf : WfS sh) (hf : f_X9_readPersonA sh lm μ v1 = some (res, KC, KS)) : CtA l D tc ro oa yX9_readPerson cX9_readPerson 3 (some .boolean) (rma 4 125 KC KS) [.ref (oa (6, 0)), .int v1] sh lm μ (some (.int res.1)) res.2.1 res.2.2 := by
  refine CtA.of (by decide) (Nat.le_of_ble_eq_true rfl) (fun aa p e s m args below meth c A C hr hk hW ls hl => ?_)
  have hx := C.1.1
  have hb := C.1.2.1
  obtain ⟨Q, hQ⟩ : ∃ Q, Q = MQ below (Cta D tc oa (some (.int res.1)) sh res.2.1 res.2.2 A) args s (rma 4 125 KC KS).cells (rma 4 125 KC KS).slots A := ⟨_, rfl⟩
  rw [← hQ]
  have hl : lv_has ls 3 [(0, .ref (oa (6, 0))), (1, .int v1)] := hl
  have hcs : 0 + KC ≤ KC ∧ 0 + KS ≤ KS := ⟨by omega, by omega⟩
  unfold f_X9_readPersonA at hf
  refine lv_aload_n hx hb dX9_readPerson_0 rfl (lv_at hl 0 rfl) ?_
  by_cases q1 : μ (6, 0) 12 = 0
  · have hf := (if_pos q1).symm.trans hf
    refine gn_X9_15 C hW q1 dX9_readPerson_1 ?_
    cases hf
  · have hf := (if_neg q1).symm.trans hf
    refine gf_X9_15 C hW q1 dX9_readPerson_1 ?_
    obtain ⟨hq1, hf⟩ := ce_of hf
    refine gf_X9_50 C hW hq1 dX9_readPerson_4 ?_
    refine lv_if_ne (tgt := 20) hx hb dX9_readPerson_7 (by decide) (fun c2 => ?_) (fun c2 => ?_)
    · have hf := (if_neg c2).symm.trans hf
      refine lv_aload_n hx hb dX9_readPerson_20 rfl (lv_at hl 0 rfl) ?_
      refine lv_iload_n hx hb dX9_readPerson_21 rfl (lv_at hl 1 rfl) ?_
      obtain ⟨x22, h22, hf⟩ := bd_of hf
      refine r_callVU (k := ((6, 0) : Ky)) C hW hl lk_X9_26 (c_X8_wrongAt_0 hwf h22) ⟨rfl, rfl⟩ ⟨Nat.le_of_ble_eq_true rfl, Nat.le_of_ble_eq_true rfl⟩ rfl rfl rfl (As := [.int v1]) (rest := []) rfl rfl (Nat.le_of_ble_eq_true rfl) dX9_readPerson_22 (ca_le hcs) (fun H locs hW => ?_)
      show W p l e (rma 4 125 KC KS) s m args below meth c H locs 0 0 Q (F0 m 25 ls [.int x22.1])
      obtain ⟨hz3, hf⟩ := cb_of hf
      obtain ⟨eo, ek1, ek2⟩ := retA hf
      subst eo
      rw [hQ]
      exact r_zretA C hr hk hW hz3 (cs_end hcs).1 (cs_end hcs).2 dX9_readPerson_25
    · have hf := (if_pos c2).symm.trans hf
      refine lv_aload_n hx hb dX9_readPerson_10 rfl (lv_at hl 0 rfl) ?_
      by_cases q4 : μ (6, 0) 12 = 0
      · have hf := (if_pos q4).symm.trans hf
        refine gn_X9_15 C hW q4 dX9_readPerson_11 ?_
        cases hf
      · have hf := (if_neg q4).symm.trans hf
        refine gf_X9_15 C hW q4 dX9_readPerson_11 ?_
        obtain ⟨hq4, hf⟩ := ce_of hf
        obtain ⟨x14, h14, hf⟩ := bd_of hf
        refine r_callV (k := ((13, (μ (6, 0) 12).toNatClampNeg - 1) : Ky)) C hW hl lk_X9_69 (c_X6_hasRoom hwf hq4 h14) ⟨rfl, rfl⟩ ⟨Nat.le_of_ble_eq_true rfl, Nat.le_of_ble_eq_true rfl⟩ rfl (faB_13 hq4) rfl (As := []) (rest := []) rfl rfl (Nat.le_of_ble_eq_true rfl) dX9_readPerson_14 (ca_le hcs) (fun H locs hW => ?_)
        show W p l e (rma 4 125 KC KS) s m args below meth c H locs 0 0 Q (F0 m 17 ls [.int x14])
        refine lv_if_ne (tgt := 26) hx hb dX9_readPerson_17 (by decide) (fun c5 => ?_) (fun c5 => ?_)
        · have hf := (if_neg c5).symm.trans hf
          refine lv_aload_n hx hb dX9_readPerson_26 rfl (lv_at hl 0 rfl) ?_
          refine gf_X9_59 C hW dX9_readPerson_27 ?_
          refine lv_istore_n (lv' := [(2, .int (μ (6, 0) 10)), (0, .ref (oa (6, 0))), (1, .int v1)]) hx hb dX9_readPerson_30 rfl hl (by decide) rfl (fun ls hl => ?_)
          refine lv_aload_n hx hb dX9_readPerson_31 rfl (lv_at hl 1 rfl) ?_
          refine lv_iconst (v := 0) hx hb dX9_readPerson_32 (by decide) ?_
          refine lv_aload_n hx hb dX9_readPerson_33 rfl (lv_at hl 1 rfl) ?_
          by_cases q6 : μ (6, 0) 12 = 0
          · have hf := (if_pos q6).symm.trans hf
            refine gn_X9_15 C hW q6 dX9_readPerson_34 ?_
            cases hf
          · have hf := (if_neg q6).symm.trans hf
            refine gf_X9_15 C hW q6 dX9_readPerson_34 ?_
            obtain ⟨hq6, hf⟩ := ce_of hf
            refine gf_X9_66 C hW hq6 dX9_readPerson_37 ?_
            refine lv_iconst (v := 1) hx hb dX9_readPerson_40 (by decide) ?_
            refine lv_isub hx hb dX9_readPerson_41 ?_
            obtain ⟨x42, h42, hf⟩ := bd_of hf
            refine r_callVU (k := ((6, 0) : Ky)) C hW hl lk_X9_62 (c_X8_takeNumber_0 hwf h42) ⟨rfl, rfl⟩ ⟨Nat.le_of_ble_eq_true rfl, Nat.le_of_ble_eq_true rfl⟩ rfl rfl rfl (As := [.int (0 : Int32), .int ((μ (13, (μ (6, 0) 12).toNatClampNeg - 1) 0) - (1 : Int32))]) (rest := []) rfl rfl (Nat.le_of_ble_eq_true rfl) dX9_readPerson_42 (ca_le hcs) (fun H locs hW => ?_)
            show W p l e (rma 4 125 KC KS) s m args below meth c H locs 0 0 Q (F0 m 45 ls [.int x42.1])
            refine lv_if_ne (tgt := 50) hx hb dX9_readPerson_45 (by decide) (fun c7 => ?_) (fun c7 => ?_)
            · have hf := (if_neg c7).symm.trans hf
              refine lv_aload_n hx hb dX9_readPerson_50 rfl (lv_at hl 1 rfl) ?_
              by_cases q8 : x42.2 (6, 0) 12 = 0
              · have hf := (if_pos q8).symm.trans hf
                refine gn_X9_15 C hW q8 dX9_readPerson_51 ?_
                refine lv_iload_n hx hb dX9_readPerson_54 rfl (lv_at hl 0 rfl) ?_
                cases hf
              · have hf := (if_neg q8).symm.trans hf
                refine gf_X9_15 C hW q8 dX9_readPerson_51 ?_
                obtain ⟨hq8, hf⟩ := ce_of hf
                refine lv_iload_n hx hb dX9_readPerson_54 rfl (lv_at hl 0 rfl) ?_
                obtain ⟨x55, h55, hf⟩ := bd_of hf
                obtain ⟨kc9, ks9, hf, ek9, es9⟩ := addc_of hf
                have hcs := cs_add hcs ek9 es9
                refine r_callA (k := ((13, (x42.2 (6, 0) 12).toNatClampNeg - 1) : Ky)) C hW hl lk_X9_72 (cA_X6_join hwf hq8 h55) ⟨Nat.le_of_ble_eq_true rfl, Nat.le_of_ble_eq_true rfl⟩ rfl (faB_13 hq8) rfl (As := [.int (μ (6, 0) 10)]) (rest := []) rfl rfl (Nat.le_of_ble_eq_true rfl) dX9_readPerson_55 (ca_le hcs) (fun aa H locs hW => ?_)
                show W p l e (rma 4 125 KC KS) s m args below meth c H locs (0 + x55.2.1) (0 + x55.2.2) Q (F0 m 58 ls [])
                refine lv_iconst (v := 1) hx hb dX9_readPerson_58 (by decide) ?_
                obtain ⟨eo, ek1, ek2⟩ := retA hf
                subst eo
                rw [hQ]
                exact r_zretA C hr hk hW (Or.inr rfl) (cs_end hcs).1 (cs_end hcs).2 dX9_readPerson_59
            · have hf := (if_pos c7).symm.trans hf
              refine lv_iconst (v := 0) hx hb dX9_readPerson_48 (by decide) ?_
              obtain ⟨eo, ek1, ek2⟩ := retA hf
              subst eo
              rw [hQ]
              exact r_zretA C hr hk hW (Or.inl rfl) (cs_end hcs).1 (cs_end hcs).2 dX9_readPerson_49
        · have hf := (if_pos c5).symm.trans hf
          refine lv_aload_n hx hb dX9_readPerson_20 rfl (lv_at hl 0 rfl) ?_
          refine lv_iload_n hx hb dX9_readPerson_21 rfl (lv_at hl 1 rfl) ?_
          obtain ⟨x22, h22, hf⟩ := bd_of hf
          refine r_callVU (k := ((6, 0) : Ky)) C hW hl lk_X9_26 (c_X8_wrongAt_0 hwf h22) ⟨rfl, rfl⟩ ⟨Nat.le_of_ble_eq_true rfl, Nat.le_of_ble_eq_true rfl⟩ rfl rfl rfl (As := [.int v1]) (rest := []) rfl rfl (Nat.le_of_ble_eq_true rfl) dX9_readPerson_22 (ca_le hcs) (fun H locs hW => ?_)
          show W p l e (rma 4 125 KC KS) s m args below meth c H locs 0 0 Q (F0 m 25 ls [.int x22.1])
          obtain ⟨hz10, hf⟩ := cb_of hf
          obtain ⟨eo, ek1, ek2⟩ := retA hf
          subst eo
          rw [hQ]
          exact r_zretA C hr hk hW hz10 (cs_end hcs).1 (cs_end hcs).2 dX9_readPerson_25
set_option maxHeartbeats 4000000 in
set_option maxRecDepth 100000 in
theorem cA_X9_readLine {l : Launch} {D : va_G} {tc : Nat → ClassId} {ro : Ro} {oa : Ky → Nat} {sh : Sh} {lm : Nat → Nat} {μ : Mm} {res : Int32 × (Nat → Nat) × Mm} {KC KS : Nat} (hwf : WfS sh) (hf : f_X9_readLineA sh lm μ = some (res, KC, KS)) : CtA l D tc ro oa yX9_readLine cX9_readLine 3 (some .boolean) (rma 6 147 KC KS) [.ref (oa (6, 0))] sh lm μ (some (.int res.1)) res.2.1 res.2.2 := by
  refine CtA.of (by decide) (Nat.le_of_ble_eq_true rfl) (fun aa p e s m args below meth c A C hr hk hW ls hl => ?_)
  have hx := C.1.1
  have hb := C.1.2.1
  obtain ⟨Q, hQ⟩ : ∃ Q, Q = MQ below (Cta D tc oa (some (.int res.1)) sh res.2.1 res.2.2 A) args s (rma 6 147 KC KS).cells (rma 6 147 KC KS).slots A := ⟨_, rfl⟩
  rw [← hQ]
  have hl : lv_has ls 3 [(0, .ref (oa (6, 0)))] := hl
  have hcs : 0 + KC ≤ KC ∧ 0 + KS ≤ KS := ⟨by omega, by omega⟩
  unfold f_X9_readLineA at hf
  refine lv_aload_n hx hb dX9_readLine_0 rfl (lv_at hl 0 rfl) ?_
  refine gf_X9_19 C hW dX9_readLine_1 ?_
  refine lv_istore_n (lv' := [(1, .int (μ (6, 0) 9)), (0, .ref (oa (6, 0)))]) hx hb dX9_readLine_4 rfl hl (by decide) rfl (fun ls hl => ?_)
  refine lv_aload_n hx hb dX9_readLine_5 rfl (lv_at hl 1 rfl) ?_
  refine gf_X9_23 C hW dX9_readLine_6 ?_
  refine lv_istore_n (lv' := [(2, .int (μ (6, 0) 8)), (1, .int (μ (6, 0) 9)), (0, .ref (oa (6, 0)))]) hx hb dX9_readLine_9 rfl hl (by decide) rfl (fun ls hl => ?_)
  refine lv_aload_n hx hb dX9_readLine_10 rfl (lv_at hl 2 rfl) ?_
  by_cases q1 : μ (6, 0) 12 = 0
  · have hf := (if_pos q1).symm.trans hf
    refine gn_X9_15 C hW q1 dX9_readLine_11 ?_
    refine lv_ifnullN (tgt := 24) hx hb dX9_readLine_14 (by decide) ?_
    refine lv_aload_n hx hb dX9_readLine_24 rfl (lv_at hl 2 rfl) ?_
    refine lv_iload_n hx hb dX9_readLine_25 rfl (lv_at hl 1 rfl) ?_
    obtain ⟨x26, h26, hf⟩ := bd_of hf
    refine r_callVU (k := ((6, 0) : Ky)) C hW hl lk_X9_26 (c_X8_wrongAt_0 hwf h26) ⟨rfl, rfl⟩ ⟨Nat.le_of_ble_eq_true rfl, Nat.le_of_ble_eq_true rfl⟩ rfl rfl rfl (As := [.int (μ (6, 0) 9)]) (rest := []) rfl rfl (Nat.le_of_ble_eq_true rfl) dX9_readLine_26 (ca_le hcs) (fun H locs hW => ?_)
    show W p l e (rma 6 147 KC KS) s m args below meth c H locs 0 0 Q (F0 m 29 ls [.int x26.1])
    obtain ⟨hz2, hf⟩ := cb_of hf
    obtain ⟨eo, ek1, ek2⟩ := retA hf
    subst eo
    rw [hQ]
    exact r_zretA C hr hk hW hz2 (cs_end hcs).1 (cs_end hcs).2 dX9_readLine_29
  · have hf := (if_neg q1).symm.trans hf
    refine gf_X9_15 C hW q1 dX9_readLine_11 ?_
    obtain ⟨hq1, hf⟩ := ce_of hf
    refine lv_ifnull hx hb dX9_readLine_14 ?_
    refine lv_iload_n hx hb dX9_readLine_17 rfl (lv_at hl 0 rfl) ?_
    refine lv_sipush (v := 301) hx hb dX9_readLine_18 (by decide) ?_
    refine lv_icmp_ge (tgt := 30) hx hb dX9_readLine_21 (by decide) (fun c3 => ?_) (fun c3 => ?_)
    · have hf := (if_pos c3).symm.trans hf
      refine lv_aload_n hx hb dX9_readLine_30 rfl (lv_at hl 2 rfl) ?_
      obtain ⟨x31, h31, hf⟩ := bd_of hf
      refine r_callVU (k := ((6, 0) : Ky)) C hW hl lk_X9_30 (c_X8_step_0 hwf h31) ⟨rfl, rfl⟩ ⟨Nat.le_of_ble_eq_true rfl, Nat.le_of_ble_eq_true rfl⟩ rfl rfl rfl (As := []) (rest := []) rfl rfl (Nat.le_of_ble_eq_true rfl) dX9_readLine_31 (ca_le hcs) (fun H locs hW => ?_)
      show W p l e (rma 6 147 KC KS) s m args below meth c H locs 0 0 Q (F0 m 34 ls [])
      refine lv_iload_n hx hb dX9_readLine_34 rfl (lv_at hl 0 rfl) ?_
      by_cases c5 : (μ (6, 0) 8) = (301 : Int32)
      · have hf := (if_pos c5).symm.trans hf
        refine lv_tableIn (off := 45) (tgt := 80) hx hb dX9_readLine_35 (by rw [c5]; decide) (by rw [c5]; decide) (by rw [c5]; rfl) (by decide) ?_
        refine lv_aload_n hx hb dX9_readLine_80 rfl (lv_at hl 2 rfl) ?_
        refine lv_iload_n hx hb dX9_readLine_81 rfl (lv_at hl 1 rfl) ?_
        obtain ⟨x82, h82, hf⟩ := bd_of hf
        refine r_callV (k := ((6, 0) : Ky)) C hW hl lk_X9_33 (c_X9_readValues hwf h82) ⟨rfl, rfl⟩ ⟨Nat.le_of_ble_eq_true rfl, Nat.le_of_ble_eq_true rfl⟩ rfl rfl rfl (As := [.int (μ (6, 0) 9)]) (rest := []) rfl rfl (Nat.le_of_ble_eq_true rfl) dX9_readLine_82 (ca_le hcs) (fun H locs hW => ?_)
        show W p l e (rma 6 147 KC KS) s m args below meth c H locs 0 0 Q (F0 m 85 ls [.int x82.1])
        obtain ⟨hz6, hf⟩ := cb_of hf
        obtain ⟨eo, ek1, ek2⟩ := retA hf
        subst eo
        rw [hQ]
        exact r_zretA C hr hk hW hz6 (cs_end hcs).1 (cs_end hcs).2 dX9_readLine_85
      · have hf := (if_neg c5).symm.trans hf
        have n5 := lv_neT c5 (a := 301) (by decide)
        by_cases c7 : (μ (6, 0) 8) = (302 : Int32)
        · have hf := (if_pos c7).symm.trans hf
          refine lv_tableIn (off := 51) (tgt := 86) hx hb dX9_readLine_35 (by rw [c7]; decide) (by rw [c7]; decide) (by rw [c7]; rfl) (by decide) ?_
          refine lv_aload_n hx hb dX9_readLine_86 rfl (lv_at hl 2 rfl) ?_
          refine lv_iload_n hx hb dX9_readLine_87 rfl (lv_at hl 1 rfl) ?_
          obtain ⟨x88, h88, hf⟩ := bd_of hf
          obtain ⟨kc8, ks8, hf, ek8, es8⟩ := addc_of hf
          have hcs := cs_add hcs ek8 es8
          refine r_callA (k := ((6, 0) : Ky)) C hW hl lk_X9_36 (cA_X9_readPerson hwf h88) ⟨Nat.le_of_ble_eq_true rfl, Nat.le_of_ble_eq_true rfl⟩ rfl rfl rfl (As := [.int (μ (6, 0) 9)]) (rest := []) rfl rfl (Nat.le_of_ble_eq_true rfl) dX9_readLine_88 (ca_le hcs) (fun aa H locs hW => ?_)
          show W p l e (rma 6 147 KC KS) s m args below meth c H locs (0 + x88.2.1) (0 + x88.2.2) Q (F0 m 91 ls [.int x88.1.1])
          obtain ⟨hz9, hf⟩ := cb_of hf
          obtain ⟨eo, ek1, ek2⟩ := retA hf
          subst eo
          rw [hQ]
          exact r_zretA C hr hk hW hz9 (cs_end hcs).1 (cs_end hcs).2 dX9_readLine_91
        · have hf := (if_neg c7).symm.trans hf
          have n7 := lv_neT c7 (a := 302) (by decide)
          by_cases c10 : (μ (6, 0) 8) = (303 : Int32)
          · have hf := (if_pos c10).symm.trans hf
            refine lv_tableIn (off := 57) (tgt := 92) hx hb dX9_readLine_35 (by rw [c10]; decide) (by rw [c10]; decide) (by rw [c10]; rfl) (by decide) ?_
            refine lv_aload_n hx hb dX9_readLine_92 rfl (lv_at hl 2 rfl) ?_
            obtain ⟨x93, h93, hf⟩ := bd_of hf
            refine r_callV (k := ((6, 0) : Ky)) C hW hl lk_X9_39 (c_X9_readSees hwf h93) ⟨rfl, rfl⟩ ⟨Nat.le_of_ble_eq_true rfl, Nat.le_of_ble_eq_true rfl⟩ rfl rfl rfl (As := []) (rest := []) rfl rfl (Nat.le_of_ble_eq_true rfl) dX9_readLine_93 (ca_le hcs) (fun H locs hW => ?_)
            show W p l e (rma 6 147 KC KS) s m args below meth c H locs 0 0 Q (F0 m 96 ls [.int x93.1])
            obtain ⟨hz11, hf⟩ := cb_of hf
            obtain ⟨eo, ek1, ek2⟩ := retA hf
            subst eo
            rw [hQ]
            exact r_zretA C hr hk hW hz11 (cs_end hcs).1 (cs_end hcs).2 dX9_readLine_96
          · have hf := (if_neg c10).symm.trans hf
            have n10 := lv_neT c10 (a := 303) (by decide)
            by_cases c12 : (μ (6, 0) 8) = (304 : Int32)
            · have hf := (if_pos c12).symm.trans hf
              refine lv_tableIn (off := 62) (tgt := 97) hx hb dX9_readLine_35 (by rw [c12]; decide) (by rw [c12]; decide) (by rw [c12]; rfl) (by decide) ?_
              refine lv_aload_n hx hb dX9_readLine_97 rfl (lv_at hl 2 rfl) ?_
              refine lv_iload_n hx hb dX9_readLine_98 rfl (lv_at hl 1 rfl) ?_
              refine lv_iload_n hx hb dX9_readLine_99 rfl (lv_at hl 0 rfl) ?_
              refine lv_sipush (v := 304) hx hb dX9_readLine_100 (by decide) ?_
              refine lv_icmp_ne (tgt := 110) hx hb dX9_readLine_103 (by decide) (fun c13 => ?_) (fun c13 => ?_)
              · have hf := (if_neg c13).symm.trans hf
                refine lv_iconst (v := 0) hx hb dX9_readLine_110 (by decide) ?_
                obtain ⟨x111, h111, hf⟩ := bd_of hf
                refine r_callV (k := ((6, 0) : Ky)) C hW hl lk_X9_43 (c_X9_readLimit hwf h111) ⟨rfl, rfl⟩ ⟨Nat.le_of_ble_eq_true rfl, Nat.le_of_ble_eq_true rfl⟩ rfl rfl rfl (As := [.int (μ (6, 0) 9), .int (0 : Int32)]) (rest := []) rfl rfl (Nat.le_of_ble_eq_true rfl) dX9_readLine_111 (ca_le hcs) (fun H locs hW => ?_)
                show W p l e (rma 6 147 KC KS) s m args below meth c H locs 0 0 Q (F0 m 114 ls [.int x111.1])
                obtain ⟨hz14, hf⟩ := cb_of hf
                obtain ⟨eo, ek1, ek2⟩ := retA hf
                subst eo
                rw [hQ]
                exact r_zretA C hr hk hW hz14 (cs_end hcs).1 (cs_end hcs).2 dX9_readLine_114
              · have hf := (if_pos c13).symm.trans hf
                refine lv_iconst (v := 1) hx hb dX9_readLine_106 (by decide) ?_
                refine lv_goto (tgt := 111) hx hb dX9_readLine_107 (by decide) ?_
                obtain ⟨x111, h111, hf⟩ := bd_of hf
                refine r_callV (k := ((6, 0) : Ky)) C hW hl lk_X9_43 (c_X9_readLimit hwf h111) ⟨rfl, rfl⟩ ⟨Nat.le_of_ble_eq_true rfl, Nat.le_of_ble_eq_true rfl⟩ rfl rfl rfl (As := [.int (μ (6, 0) 9), .int (1 : Int32)]) (rest := []) rfl rfl (Nat.le_of_ble_eq_true rfl) dX9_readLine_111 (ca_le hcs) (fun H locs hW => ?_)
                show W p l e (rma 6 147 KC KS) s m args below meth c H locs 0 0 Q (F0 m 114 ls [.int x111.1])
                obtain ⟨hz15, hf⟩ := cb_of hf
                obtain ⟨eo, ek1, ek2⟩ := retA hf
                subst eo
                rw [hQ]
                exact r_zretA C hr hk hW hz15 (cs_end hcs).1 (cs_end hcs).2 dX9_readLine_114
            · have hf := (if_neg c12).symm.trans hf
              have n12 := lv_neT c12 (a := 304) (by decide)
              by_cases c16 : (μ (6, 0) 8) = (305 : Int32)
              · have hf := (if_pos c16).symm.trans hf
                refine lv_tableIn (off := 62) (tgt := 97) hx hb dX9_readLine_35 (by rw [c16]; decide) (by rw [c16]; decide) (by rw [c16]; rfl) (by decide) ?_
                refine lv_aload_n hx hb dX9_readLine_97 rfl (lv_at hl 2 rfl) ?_
                refine lv_iload_n hx hb dX9_readLine_98 rfl (lv_at hl 1 rfl) ?_
                refine lv_iload_n hx hb dX9_readLine_99 rfl (lv_at hl 0 rfl) ?_
                refine lv_sipush (v := 304) hx hb dX9_readLine_100 (by decide) ?_
                refine lv_icmp_ne (tgt := 110) hx hb dX9_readLine_103 (by decide) (fun c17 => ?_) (fun c17 => ?_)
                · have hf := (if_neg c17).symm.trans hf
                  refine lv_iconst (v := 0) hx hb dX9_readLine_110 (by decide) ?_
                  obtain ⟨x111, h111, hf⟩ := bd_of hf
                  refine r_callV (k := ((6, 0) : Ky)) C hW hl lk_X9_43 (c_X9_readLimit hwf h111) ⟨rfl, rfl⟩ ⟨Nat.le_of_ble_eq_true rfl, Nat.le_of_ble_eq_true rfl⟩ rfl rfl rfl (As := [.int (μ (6, 0) 9), .int (0 : Int32)]) (rest := []) rfl rfl (Nat.le_of_ble_eq_true rfl) dX9_readLine_111 (ca_le hcs) (fun H locs hW => ?_)
                  show W p l e (rma 6 147 KC KS) s m args below meth c H locs 0 0 Q (F0 m 114 ls [.int x111.1])
                  obtain ⟨hz18, hf⟩ := cb_of hf
                  obtain ⟨eo, ek1, ek2⟩ := retA hf
                  subst eo
                  rw [hQ]
                  exact r_zretA C hr hk hW hz18 (cs_end hcs).1 (cs_end hcs).2 dX9_readLine_114
                · have hf := (if_pos c17).symm.trans hf
                  refine lv_iconst (v := 1) hx hb dX9_readLine_106 (by decide) ?_
                  refine lv_goto (tgt := 111) hx hb dX9_readLine_107 (by decide) ?_
                  obtain ⟨x111, h111, hf⟩ := bd_of hf
                  refine r_callV (k := ((6, 0) : Ky)) C hW hl lk_X9_43 (c_X9_readLimit hwf h111) ⟨rfl, rfl⟩ ⟨Nat.le_of_ble_eq_true rfl, Nat.le_of_ble_eq_true rfl⟩ rfl rfl rfl (As := [.int (μ (6, 0) 9), .int (1 : Int32)]) (rest := []) rfl rfl (Nat.le_of_ble_eq_true rfl) dX9_readLine_111 (ca_le hcs) (fun H locs hW => ?_)
                  show W p l e (rma 6 147 KC KS) s m args below meth c H locs 0 0 Q (F0 m 114 ls [.int x111.1])
                  obtain ⟨hz19, hf⟩ := cb_of hf
                  obtain ⟨eo, ek1, ek2⟩ := retA hf
                  subst eo
                  rw [hQ]
                  exact r_zretA C hr hk hW hz19 (cs_end hcs).1 (cs_end hcs).2 dX9_readLine_114
              · have hf := (if_neg c16).symm.trans hf
                have n16 := lv_neT c16 (a := 305) (by decide)
                by_cases c20 : (μ (6, 0) 8) = (306 : Int32)
                · have hf := (if_pos c20).symm.trans hf
                  refine lv_tableIn (off := 98) (tgt := 133) hx hb dX9_readLine_35 (by rw [c20]; decide) (by rw [c20]; decide) (by rw [c20]; rfl) (by decide) ?_
                  refine lv_aload_n hx hb dX9_readLine_133 rfl (lv_at hl 2 rfl) ?_
                  refine lv_iload_n hx hb dX9_readLine_134 rfl (lv_at hl 1 rfl) ?_
                  obtain ⟨x135, h135, hf⟩ := bd_of hf
                  refine r_callVU (k := ((6, 0) : Ky)) C hW hl lk_X9_26 (c_X8_wrongAt_0 hwf h135) ⟨rfl, rfl⟩ ⟨Nat.le_of_ble_eq_true rfl, Nat.le_of_ble_eq_true rfl⟩ rfl rfl rfl (As := [.int (μ (6, 0) 9)]) (rest := []) rfl rfl (Nat.le_of_ble_eq_true rfl) dX9_readLine_135 (ca_le hcs) (fun H locs hW => ?_)
                  show W p l e (rma 6 147 KC KS) s m args below meth c H locs 0 0 Q (F0 m 138 ls [.int x135.1])
                  obtain ⟨hz21, hf⟩ := cb_of hf
                  obtain ⟨eo, ek1, ek2⟩ := retA hf
                  subst eo
                  rw [hQ]
                  exact r_zretA C hr hk hW hz21 (cs_end hcs).1 (cs_end hcs).2 dX9_readLine_138
                · have hf := (if_neg c20).symm.trans hf
                  have n20 := lv_neT c20 (a := 306) (by decide)
                  by_cases c22 : (μ (6, 0) 8) = (307 : Int32)
                  · have hf := (if_pos c22).symm.trans hf
                    refine lv_tableIn (off := 80) (tgt := 115) hx hb dX9_readLine_35 (by rw [c22]; decide) (by rw [c22]; decide) (by rw [c22]; rfl) (by decide) ?_
                    refine lv_aload_n hx hb dX9_readLine_115 rfl (lv_at hl 2 rfl) ?_
                    refine lv_iload_n hx hb dX9_readLine_116 rfl (lv_at hl 1 rfl) ?_
                    refine lv_iload_n hx hb dX9_readLine_117 rfl (lv_at hl 0 rfl) ?_
                    refine lv_sipush (v := 307) hx hb dX9_readLine_118 (by decide) ?_
                    refine lv_icmp_ne (tgt := 128) hx hb dX9_readLine_121 (by decide) (fun c23 => ?_) (fun c23 => ?_)
                    · have hf := (if_neg c23).symm.trans hf
                      refine lv_iconst (v := 0) hx hb dX9_readLine_128 (by decide) ?_
                      obtain ⟨x129, h129, hf⟩ := bd_of hf
                      refine r_callV (k := ((6, 0) : Ky)) C hW hl lk_X9_47 (c_X9_readMatch hwf h129) ⟨rfl, rfl⟩ ⟨Nat.le_of_ble_eq_true rfl, Nat.le_of_ble_eq_true rfl⟩ rfl rfl rfl (As := [.int (μ (6, 0) 9), .int (0 : Int32)]) (rest := []) rfl rfl (Nat.le_of_ble_eq_true rfl) dX9_readLine_129 (ca_le hcs) (fun H locs hW => ?_)
                      show W p l e (rma 6 147 KC KS) s m args below meth c H locs 0 0 Q (F0 m 132 ls [.int x129.1])
                      obtain ⟨hz24, hf⟩ := cb_of hf
                      obtain ⟨eo, ek1, ek2⟩ := retA hf
                      subst eo
                      rw [hQ]
                      exact r_zretA C hr hk hW hz24 (cs_end hcs).1 (cs_end hcs).2 dX9_readLine_132
                    · have hf := (if_pos c23).symm.trans hf
                      refine lv_iconst (v := 1) hx hb dX9_readLine_124 (by decide) ?_
                      refine lv_goto (tgt := 129) hx hb dX9_readLine_125 (by decide) ?_
                      obtain ⟨x129, h129, hf⟩ := bd_of hf
                      refine r_callV (k := ((6, 0) : Ky)) C hW hl lk_X9_47 (c_X9_readMatch hwf h129) ⟨rfl, rfl⟩ ⟨Nat.le_of_ble_eq_true rfl, Nat.le_of_ble_eq_true rfl⟩ rfl rfl rfl (As := [.int (μ (6, 0) 9), .int (1 : Int32)]) (rest := []) rfl rfl (Nat.le_of_ble_eq_true rfl) dX9_readLine_129 (ca_le hcs) (fun H locs hW => ?_)
                      show W p l e (rma 6 147 KC KS) s m args below meth c H locs 0 0 Q (F0 m 132 ls [.int x129.1])
                      obtain ⟨hz25, hf⟩ := cb_of hf
                      obtain ⟨eo, ek1, ek2⟩ := retA hf
                      subst eo
                      rw [hQ]
                      exact r_zretA C hr hk hW hz25 (cs_end hcs).1 (cs_end hcs).2 dX9_readLine_132
                  · have hf := (if_neg c22).symm.trans hf
                    have n22 := lv_neT c22 (a := 307) (by decide)
                    by_cases c26 : (μ (6, 0) 8) = (308 : Int32)
                    · have hf := (if_pos c26).symm.trans hf
                      refine lv_tableIn (off := 80) (tgt := 115) hx hb dX9_readLine_35 (by rw [c26]; decide) (by rw [c26]; decide) (by rw [c26]; rfl) (by decide) ?_
                      refine lv_aload_n hx hb dX9_readLine_115 rfl (lv_at hl 2 rfl) ?_
                      refine lv_iload_n hx hb dX9_readLine_116 rfl (lv_at hl 1 rfl) ?_
                      refine lv_iload_n hx hb dX9_readLine_117 rfl (lv_at hl 0 rfl) ?_
                      refine lv_sipush (v := 307) hx hb dX9_readLine_118 (by decide) ?_
                      refine lv_icmp_ne (tgt := 128) hx hb dX9_readLine_121 (by decide) (fun c27 => ?_) (fun c27 => ?_)
                      · have hf := (if_neg c27).symm.trans hf
                        refine lv_iconst (v := 0) hx hb dX9_readLine_128 (by decide) ?_
                        obtain ⟨x129, h129, hf⟩ := bd_of hf
                        refine r_callV (k := ((6, 0) : Ky)) C hW hl lk_X9_47 (c_X9_readMatch hwf h129) ⟨rfl, rfl⟩ ⟨Nat.le_of_ble_eq_true rfl, Nat.le_of_ble_eq_true rfl⟩ rfl rfl rfl (As := [.int (μ (6, 0) 9), .int (0 : Int32)]) (rest := []) rfl rfl (Nat.le_of_ble_eq_true rfl) dX9_readLine_129 (ca_le hcs) (fun H locs hW => ?_)
                        show W p l e (rma 6 147 KC KS) s m args below meth c H locs 0 0 Q (F0 m 132 ls [.int x129.1])
                        obtain ⟨hz28, hf⟩ := cb_of hf
                        obtain ⟨eo, ek1, ek2⟩ := retA hf
                        subst eo
                        rw [hQ]
                        exact r_zretA C hr hk hW hz28 (cs_end hcs).1 (cs_end hcs).2 dX9_readLine_132
                      · have hf := (if_pos c27).symm.trans hf
                        refine lv_iconst (v := 1) hx hb dX9_readLine_124 (by decide) ?_
                        refine lv_goto (tgt := 129) hx hb dX9_readLine_125 (by decide) ?_
                        obtain ⟨x129, h129, hf⟩ := bd_of hf
                        refine r_callV (k := ((6, 0) : Ky)) C hW hl lk_X9_47 (c_X9_readMatch hwf h129) ⟨rfl, rfl⟩ ⟨Nat.le_of_ble_eq_true rfl, Nat.le_of_ble_eq_true rfl⟩ rfl rfl rfl (As := [.int (μ (6, 0) 9), .int (1 : Int32)]) (rest := []) rfl rfl (Nat.le_of_ble_eq_true rfl) dX9_readLine_129 (ca_le hcs) (fun H locs hW => ?_)
                        show W p l e (rma 6 147 KC KS) s m args below meth c H locs 0 0 Q (F0 m 132 ls [.int x129.1])
                        obtain ⟨hz29, hf⟩ := cb_of hf
                        obtain ⟨eo, ek1, ek2⟩ := retA hf
                        subst eo
                        rw [hQ]
                        exact r_zretA C hr hk hW hz29 (cs_end hcs).1 (cs_end hcs).2 dX9_readLine_132
                    · have hf := (if_neg c26).symm.trans hf
                      have n26 := lv_neT c26 (a := 308) (by decide)
                      refine lv_tableOut (tgt := 133) hx hb dX9_readLine_35 (by omega) (by decide) ?_
                      refine lv_aload_n hx hb dX9_readLine_133 rfl (lv_at hl 2 rfl) ?_
                      refine lv_iload_n hx hb dX9_readLine_134 rfl (lv_at hl 1 rfl) ?_
                      obtain ⟨x135, h135, hf⟩ := bd_of hf
                      refine r_callVU (k := ((6, 0) : Ky)) C hW hl lk_X9_26 (c_X8_wrongAt_0 hwf h135) ⟨rfl, rfl⟩ ⟨Nat.le_of_ble_eq_true rfl, Nat.le_of_ble_eq_true rfl⟩ rfl rfl rfl (As := [.int (μ (6, 0) 9)]) (rest := []) rfl rfl (Nat.le_of_ble_eq_true rfl) dX9_readLine_135 (ca_le hcs) (fun H locs hW => ?_)
                      show W p l e (rma 6 147 KC KS) s m args below meth c H locs 0 0 Q (F0 m 138 ls [.int x135.1])
                      obtain ⟨hz30, hf⟩ := cb_of hf
                      obtain ⟨eo, ek1, ek2⟩ := retA hf
                      subst eo
                      rw [hQ]
                      exact r_zretA C hr hk hW hz30 (cs_end hcs).1 (cs_end hcs).2 dX9_readLine_138
    · have hf := (if_neg c3).symm.trans hf
      refine lv_aload_n hx hb dX9_readLine_24 rfl (lv_at hl 2 rfl) ?_
      refine lv_iload_n hx hb dX9_readLine_25 rfl (lv_at hl 1 rfl) ?_
      obtain ⟨x26, h26, hf⟩ := bd_of hf
      refine r_callVU (k := ((6, 0) : Ky)) C hW hl lk_X9_26 (c_X8_wrongAt_0 hwf h26) ⟨rfl, rfl⟩ ⟨Nat.le_of_ble_eq_true rfl, Nat.le_of_ble_eq_true rfl⟩ rfl rfl rfl (As := [.int (μ (6, 0) 9)]) (rest := []) rfl rfl (Nat.le_of_ble_eq_true rfl) dX9_readLine_26 (ca_le hcs) (fun H locs hW => ?_)
      show W p l e (rma 6 147 KC KS) s m args below meth c H locs 0 0 Q (F0 m 29 ls [.int x26.1])
      obtain ⟨hz31, hf⟩ := cb_of hf
      obtain ⟨eo, ek1, ek2⟩ := retA hf
      subst eo
      rw [hQ]
      exact r_zretA C hr hk hW hz31 (cs_end hcs).1 (cs_end hcs).2 dX9_readLine_29
set_option maxHeartbeats 4000000 in
set_option maxRecDepth 100000 in
theorem cA_X8_readLines_0 {l : Launch} {D : va_G} {tc : Nat → ClassId} {ro : Ro} {oa : Ky → Nat} {sh : Sh} {lm : Nat → Nat} {μ : Mm} {v1 : Int32} {res : Int32 × (Nat → Nat) × Mm} {KC KS : Nat} (hwf : WfS sh) (hf : f_X8_readLines_0A sh lm μ v1 = some (res, KC, KS)) : CtA l D tc ro oa yX8_readLines cX8_readLines 3 (some .int) (rma 7 169 KC KS) [.ref (oa (6, 0)), .int v1] sh lm μ (some (.int res.1)) res.2.1 res.2.2 := by
  refine CtA.of (by decide) (Nat.le_of_ble_eq_true rfl) (fun aa p e s m args below meth c A C hr hk hW ls hl => ?_)
  have hx := C.1.1
  have hb := C.1.2.1
  obtain ⟨Q, hQ⟩ : ∃ Q, Q = MQ below (Cta D tc oa (some (.int res.1)) sh res.2.1 res.2.2 A) args s (rma 7 169 KC KS).cells (rma 7 169 KC KS).slots A := ⟨_, rfl⟩
  rw [← hQ]
  have hl : lv_has ls 3 [(0, .ref (oa (6, 0))), (1, .int v1)] := hl
  have hcs : 0 + KC ≤ KC ∧ 0 + KS ≤ KS := ⟨by omega, by omega⟩
  unfold f_X8_readLines_0A at hf
  refine lv_aload_n hx hb dX8_readLines_0 rfl (lv_at hl 0 rfl) ?_
  refine gf_X8_27_0 C hW dX8_readLines_1 ?_
  refine lv_if_ne (tgt := 9) hx hb dX8_readLines_4 (by decide) (fun c1 => ?_) (fun c1 => ?_)
  · have hf := (if_neg c1).symm.trans hf
    refine lv_iconst (v := 1) hx hb dX8_readLines_9 (by decide) ?_
    refine lv_istore_n (lv' := [(2, .int (1 : Int32)), (0, .ref (oa (6, 0))), (1, .int v1)]) hx hb dX8_readLines_10 rfl hl (by decide) rfl (fun ls hl => ?_)
    have L11 : ∀ (lm : Nat → Nat) (aa : Nat → Nat) (μ : Mm) (v2 : Int32) (cells slots kc ks : Nat) (H : Heap) (locs : List Loc) (ls : Array Slot), WhC (fun z : (Nat → Nat) × Mm × Int32 => f_X8_readLines_0A_L11 sh z.1 v1 z.2.1 z.2.2) (lm, μ, v2) = some (res, kc, ks) → cells + kc ≤ KC ∧ slots + ks ≤ KS → Wd D (faB oa aa sh) (feB tc oa aa sh lm) A s.heap μ H locs → lv_has ls 3 [(0, .ref (oa (6, 0))), (1, .int v1), (2, .int v2)] → W p l e (rma 7 169 KC KS) s m args below meth c H locs cells slots Q (F0 m 11 ls []) := by
      intro lm aa μ v2 cells slots kc ks H locs ls hf hcs hW hl
      refine WhC_rule hf (fun (z : (Nat → Nat) × Mm × Int32) (kc ks : Nat) => ∀ (aa : Nat → Nat) (cells slots : Nat) (H : Heap) (locs : List Loc) (ls : Array Slot), cells + kc ≤ KC ∧ slots + ks ≤ KS → Wd D (faB oa aa sh) (feB tc oa aa sh z.1) A s.heap z.2.1 H locs → lv_has ls 3 [(0, .ref (oa (6, 0))), (1, .int v1), (2, .int z.2.2)] → W p l e (rma 7 169 KC KS) s m args below meth c H locs cells slots Q (F0 m 11 ls [])) (fun z o1 kc ks K1 K2 hf Kl1 Kr1 => ?_) _ _ _ _ _ _ hcs hW hl
      obtain ⟨lm, μ, v2⟩ := z
      intro aa cells slots H locs ls hcs hW hl
      have hf : f_X8_readLines_0A_L11 sh lm v1 μ v2 = some (o1, kc, ks) := hf
      unfold f_X8_readLines_0A_L11 at hf
      have hW : Wd D (faB oa aa sh) (feB tc oa aa sh lm) A s.heap μ H locs := hW
      have hl : lv_has ls 3 [(0, .ref (oa (6, 0))), (1, .int v1), (2, .int v2)] := hl
      refine lv_iload_n hx hb dX8_readLines_11 rfl (lv_at hl 2 rfl) ?_
      refine lv_iload_n hx hb dX8_readLines_12 rfl (lv_at hl 1 rfl) ?_
      refine lv_icmp_gt (tgt := 51) hx hb dX8_readLines_13 (by decide) (fun c2 => ?_) (fun c2 => ?_)
      · have hf := (if_pos c2).symm.trans hf
        obtain ⟨x9003, hf, hx9003⟩ := mapc_of hf
        obtain ⟨e9003, hK1, hK2⟩ := Kr1 _ hx9003
        have e9003 := e9003.symm
        subst e9003
        have hcs := cs_out hcs hK1 hK2
        refine lv_aload_n hx hb dX8_readLines_51 rfl (lv_at hl 0 rfl) ?_
        refine lv_aload_n hx hb dX8_readLines_52 rfl (lv_at hl 0 rfl) ?_
        refine gf_X8_38_0 C hW dX8_readLines_53 ?_
        obtain ⟨x56, h56, hf⟩ := bd_of hf
        refine r_callVU (k := ((6, 0) : Ky)) C hW hl lk_X8_41_0 (c_X8_wrongAt_0 hwf h56) ⟨rfl, rfl⟩ ⟨Nat.le_of_ble_eq_true rfl, Nat.le_of_ble_eq_true rfl⟩ rfl rfl rfl (As := [.int (μ (6, 0) 9)]) (rest := []) rfl rfl (Nat.le_of_ble_eq_true rfl) dX8_readLines_56 (ca_le hcs) (fun H locs hW => ?_)
        show W p l e (rma 7 169 KC KS) s m args below meth c H locs cells slots Q (F0 m 59 ls [.int x56.1])
        refine lv_pop hx hb dX8_readLines_59 rfl ?_
        refine lv_iconst (v := -1) hx hb dX8_readLines_60 (by decide) ?_
        obtain ⟨eo, ek1, ek2⟩ := retA hf
        subst eo
        rw [hQ]
        exact r_iretA C hr hk hW (cs_end hcs).1 (cs_end hcs).2 dX8_readLines_61
      · have hf := (if_neg c2).symm.trans hf
        refine lv_aload_n hx hb dX8_readLines_16 rfl (lv_at hl 0 rfl) ?_
        obtain ⟨x17, h17, hf⟩ := bd_of hf
        obtain ⟨kc4, ks4, hf, ek4, es4⟩ := addc_of hf
        have hcs := cs_add1 hcs ek4 es4
        refine r_callAU (k := ((6, 0) : Ky)) C hW hl lk_X8_30_0 (cA_X9_readLine hwf h17) ⟨Nat.le_of_ble_eq_true rfl, Nat.le_of_ble_eq_true rfl⟩ rfl rfl rfl (As := []) (rest := []) rfl rfl (Nat.le_of_ble_eq_true rfl) dX8_readLines_17 (ca_le hcs) (fun aa H locs hW => ?_)
        show W p l e (rma 7 169 KC KS) s m args below meth c H locs (cells + x17.2.1) (slots + x17.2.2) Q (F0 m 20 ls [.int x17.1.1])
        refine lv_if_ne (tgt := 25) hx hb dX8_readLines_20 (by decide) (fun c5 => ?_) (fun c5 => ?_)
        · have hf := (if_neg c5).symm.trans hf
          refine lv_aload_n hx hb dX8_readLines_25 rfl (lv_at hl 0 rfl) ?_
          refine gf_X8_27_0 C hW dX8_readLines_26 ?_
          refine lv_if_ne (tgt := 34) hx hb dX8_readLines_29 (by decide) (fun c6 => ?_) (fun c6 => ?_)
          · have hf := (if_neg c6).symm.trans hf
            refine lv_aload_n hx hb dX8_readLines_34 rfl (lv_at hl 0 rfl) ?_
            refine lv_bipush (v := 59) hx hb dX8_readLines_35 (by decide) ?_
            obtain ⟨x37, h37, hf⟩ := bd_of hf
            refine r_callVU (k := ((6, 0) : Ky)) C hW hl lk_X8_34_0 (c_X8_take_0 hwf h37) ⟨rfl, rfl⟩ ⟨Nat.le_of_ble_eq_true rfl, Nat.le_of_ble_eq_true rfl⟩ rfl rfl rfl (As := [.int (59 : Int32)]) (rest := []) rfl rfl (Nat.le_of_ble_eq_true rfl) dX8_readLines_37 (ca_le hcs) (fun H locs hW => ?_)
            show W p l e (rma 7 169 KC KS) s m args below meth c H locs (cells + x17.2.1) (slots + x17.2.2) Q (F0 m 40 ls [.int x37.1])
            refine lv_if_ne (tgt := 45) hx hb dX8_readLines_40 (by decide) (fun c7 => ?_) (fun c7 => ?_)
            · have hf := (if_neg c7).symm.trans hf
              refine lv_iinc (v := (v2 + (1 : Int32))) (lv' := [(2, .int (v2 + (1 : Int32))), (0, .ref (oa (6, 0))), (1, .int v1)]) hx hb dX8_readLines_45 hl (k := 2) rfl rfl (by decide) rfl (fun ls hl => ?_)
              refine lv_goto (tgt := 11) hx hb dX8_readLines_48 (by decide) ?_
              obtain ⟨eo, ek1, ek2⟩ := retA hf
              subst eo
              exact Kl1 _ rfl _ _ _ _ _ _ (cs_in hcs ek1 ek2) hW (lv_sub hl [1, 2, 0] rfl)
            · have hf := (if_pos c7).symm.trans hf
              obtain ⟨x9008, hf, hx9008⟩ := mapc_of hf
              obtain ⟨e9008, hK1, hK2⟩ := Kr1 _ hx9008
              have e9008 := e9008.symm
              subst e9008
              have hcs := cs_out hcs hK1 hK2
              refine lv_iconst (v := -1) hx hb dX8_readLines_43 (by decide) ?_
              obtain ⟨eo, ek1, ek2⟩ := retA hf
              subst eo
              rw [hQ]
              exact r_iretA C hr hk hW (cs_end hcs).1 (cs_end hcs).2 dX8_readLines_44
          · have hf := (if_pos c6).symm.trans hf
            obtain ⟨x9009, hf, hx9009⟩ := mapc_of hf
            obtain ⟨e9009, hK1, hK2⟩ := Kr1 _ hx9009
            have e9009 := e9009.symm
            subst e9009
            have hcs := cs_out hcs hK1 hK2
            refine lv_iload_n hx hb dX8_readLines_32 rfl (lv_at hl 2 rfl) ?_
            obtain ⟨eo, ek1, ek2⟩ := retA hf
            subst eo
            rw [hQ]
            exact r_iretA C hr hk hW (cs_end hcs).1 (cs_end hcs).2 dX8_readLines_33
        · have hf := (if_pos c5).symm.trans hf
          obtain ⟨x9010, hf, hx9010⟩ := mapc_of hf
          obtain ⟨e9010, hK1, hK2⟩ := Kr1 _ hx9010
          have e9010 := e9010.symm
          subst e9010
          have hcs := cs_out hcs hK1 hK2
          refine lv_iconst (v := -1) hx hb dX8_readLines_23 (by decide) ?_
          obtain ⟨eo, ek1, ek2⟩ := retA hf
          subst eo
          rw [hQ]
          exact r_iretA C hr hk hW (cs_end hcs).1 (cs_end hcs).2 dX8_readLines_24
    exact L11 _ _ μ (1 : Int32) _ _ _ _ _ _ _ hf hcs hW (lv_sub hl [1, 2, 0] rfl)
  · have hf := (if_pos c1).symm.trans hf
    refine lv_iconst (v := 0) hx hb dX8_readLines_7 (by decide) ?_
    obtain ⟨eo, ek1, ek2⟩ := retA hf
    subst eo
    rw [hQ]
    exact r_iretA C hr hk hW (cs_end hcs).1 (cs_end hcs).2 dX8_readLines_8
set_option maxHeartbeats 4000000 in
set_option maxRecDepth 100000 in
theorem cA_X10_sureBehindStroll {l : Launch} {D : va_G} {tc : Nat → ClassId} {ro : Ro} {oa : Ky → Nat} {sh : Sh} {lm : Nat → Nat} {μ : Mm} {v1 v2 : Int32} {res : Int32 × (Nat → Nat) × Mm} {KC KS : Nat} (hwf : WfS sh) (hf : f_X10_sureBehindStrollA sh lm μ v1 v2 = some (res, KC, KS)) : CtA l D tc ro oa yX10_sureBehindStroll cX10_sureBehindStroll 3 (some .int) (rma 7 181 KC KS) [.ref (oa (0, 0)), .int v1, .int v2] sh lm μ (some (.int res.1)) res.2.1 res.2.2 := by
  refine CtA.of (by decide) (Nat.le_of_ble_eq_true rfl) (fun aa p e s m args below meth c A C hr hk hW ls hl => ?_)
  have hx := C.1.1
  have hb := C.1.2.1
  obtain ⟨Q, hQ⟩ : ∃ Q, Q = MQ below (Cta D tc oa (some (.int res.1)) sh res.2.1 res.2.2 A) args s (rma 7 181 KC KS).cells (rma 7 181 KC KS).slots A := ⟨_, rfl⟩
  rw [← hQ]
  have hl : lv_has ls 3 [(0, .ref (oa (0, 0))), (1, .int v1), (2, .int v2)] := hl
  have hcs : 0 + KC ≤ KC ∧ 0 + KS ≤ KS := ⟨by omega, by omega⟩
  unfold f_X10_sureBehindStrollA at hf
  refine lv_aload_n hx hb dX10_sureBehindStroll_0 rfl (lv_at hl 0 rfl) ?_
  refine gf_X10_64 C hW dX10_sureBehindStroll_1 ?_
  obtain ⟨hq1, hf⟩ := ce_of hf
  refine lv_aload_n hx hb dX10_sureBehindStroll_4 rfl (lv_at hl 0 rfl) ?_
  refine gf_X10_60 C hW dX10_sureBehindStroll_5 ?_
  obtain ⟨hq2, hf⟩ := ce_of hf
  obtain ⟨x8, h8, hf⟩ := bd_of hf
  obtain ⟨kc3, ks3, hf, ek3, es3⟩ := addc_of hf
  have hcs := cs_add hcs ek3 es3
  refine r_callA (k := ((13, (μ (0, 0) 10).toNatClampNeg) : Ky)) C hW hl lk_X10_89 (cA_X6_become hwf hq1 hq2 h8) ⟨Nat.le_of_ble_eq_true rfl, Nat.le_of_ble_eq_true rfl⟩ rfl (faB_13 hq1) rfl (As := [.ref (oa (13, (μ (0, 0) 9).toNatClampNeg))]) (rest := []) rfl rfl (Nat.le_of_ble_eq_true rfl) dX10_sureBehindStroll_8 (ca_le hcs) (fun aa H locs hW => ?_)
  show W p l e (rma 7 181 KC KS) s m args below meth c H locs (0 + x8.2.1) (0 + x8.2.2) Q (F0 m 11 ls [])
  refine lv_aload_n hx hb dX10_sureBehindStroll_11 rfl (lv_at hl 0 rfl) ?_
  refine gf_X10_64 C hW dX10_sureBehindStroll_12 ?_
  obtain ⟨hq4, hf⟩ := ce_of hf
  refine lv_iload_n hx hb dX10_sureBehindStroll_15 rfl (lv_at hl 2 rfl) ?_
  refine pf_X10_303 C hW hq4 dX10_sureBehindStroll_16 (fun H locs hW => ?_)
  refine lv_aload_n hx hb dX10_sureBehindStroll_19 rfl (lv_at hl 0 rfl) ?_
  refine gf_X10_28 C hW dX10_sureBehindStroll_20 ?_
  refine lv_aload_n hx hb dX10_sureBehindStroll_23 rfl (lv_at hl 0 rfl) ?_
  refine gf_X10_64 C hW dX10_sureBehindStroll_24 ?_
  obtain ⟨hq5, hf⟩ := ce_of hf
  refine lv_iload_n hx hb dX10_sureBehindStroll_27 rfl (lv_at hl 1 rfl) ?_
  obtain ⟨x28, h28, hf⟩ := bd_of hf
  obtain ⟨kc6, ks6, hf, ek6, es6⟩ := addc_of hf
  have hcs := cs_add hcs ek6 es6
  refine r_callA (k := ((4, 0) : Ky)) C hW hl lk_X10_252 (cA_X0_strollBy hwf hq5 h28) ⟨Nat.le_of_ble_eq_true rfl, Nat.le_of_ble_eq_true rfl⟩ rfl rfl rfl (As := [.ref (oa (13, ((mst x8.1.2.2 (13, (x8.1.2.2 (0, 0) 10).toNatClampNeg) 5 v2) (0, 0) 10).toNatClampNeg)), .int v1]) (rest := []) rfl rfl (Nat.le_of_ble_eq_true rfl) dX10_sureBehindStroll_28 (ca_le hcs) (fun aa H locs hW => ?_)
  show W p l e (rma 7 181 KC KS) s m args below meth c H locs ((0 + x8.2.1) + x28.2.1) ((0 + x8.2.2) + x28.2.2) Q (F0 m 31 ls [.int x28.1.1])
  refine lv_pop hx hb dX10_sureBehindStroll_31 rfl ?_
  refine lv_aload_n hx hb dX10_sureBehindStroll_32 rfl (lv_at hl 0 rfl) ?_
  refine gf_X10_19 C hW dX10_sureBehindStroll_33 ?_
  refine lv_aload_n hx hb dX10_sureBehindStroll_36 rfl (lv_at hl 0 rfl) ?_
  refine gf_X10_64 C hW dX10_sureBehindStroll_37 ?_
  obtain ⟨hq7, hf⟩ := ce_of hf
  refine lv_aload_n hx hb dX10_sureBehindStroll_40 rfl (lv_at hl 0 rfl) ?_
  refine gf_X10_64 C hW dX10_sureBehindStroll_41 ?_
  obtain ⟨hq8, hf⟩ := ce_of hf
  refine gf_X10_163 C hW hq8 dX10_sureBehindStroll_44 ?_
  obtain ⟨x47, h47, hf⟩ := bd_of hf
  refine r_callV (k := ((3, 0) : Ky)) C hW hl lk_X10_398 (c_X4_sureBits hwf hq7 (cex_st hq8 (by decide)) h47) ⟨rfl, rfl⟩ ⟨Nat.le_of_ble_eq_true rfl, Nat.le_of_ble_eq_true rfl⟩ rfl rfl rfl (As := [.ref (oa (13, (x28.1.2.2 (0, 0) 10).toNatClampNeg)), .ref (oa (11, 15 + 5 * ((x28.1.2.2 (0, 0) 10).toNatClampNeg) + 2))]) (rest := []) rfl rfl (Nat.le_of_ble_eq_true rfl) dX10_sureBehindStroll_47 (ca_le hcs) (fun H locs hW => ?_)
  show W p l e (rma 7 181 KC KS) s m args below meth c H locs ((0 + x8.2.1) + x28.2.1) ((0 + x8.2.2) + x28.2.2) Q (F0 m 50 ls [.int x47])
  obtain ⟨eo, ek1, ek2⟩ := retA hf
  subst eo
  rw [hQ]
  exact r_iretA C hr hk hW (cs_end hcs).1 (cs_end hcs).2 dX10_sureBehindStroll_50
set_option maxHeartbeats 4000000 in
set_option maxRecDepth 100000 in
theorem cA_X10_village {l : Launch} {D : va_G} {tc : Nat → ClassId} {ro : Ro} {oa : Ky → Nat} {sh : Sh} {lm : Nat → Nat} {μ : Mm} {res : Int32 × (Nat → Nat) × Mm} {KC KS : Nat} (hwf : WfS sh) (hf : f_X10_villageA sh lm μ = some (res, KC, KS)) : CtA l D tc ro oa yX10_village cX10_village 4 (some .int) (rma 8 191 KC KS) [.ref (oa (0, 0))] sh lm μ (some (.int res.1)) res.2.1 res.2.2 := by
  refine CtA.of (by decide) (Nat.le_of_ble_eq_true rfl) (fun aa p e s m args below meth c A C hr hk hW ls hl => ?_)
  have hx := C.1.1
  have hb := C.1.2.1
  obtain ⟨Q, hQ⟩ : ∃ Q, Q = MQ below (Cta D tc oa (some (.int res.1)) sh res.2.1 res.2.2 A) args s (rma 8 191 KC KS).cells (rma 8 191 KC KS).slots A := ⟨_, rfl⟩
  rw [← hQ]
  have hl : lv_has ls 4 [(0, .ref (oa (0, 0)))] := hl
  have hcs : 0 + KC ≤ KC ∧ 0 + KS ≤ KS := ⟨by omega, by omega⟩
  unfold f_X10_villageA at hf
  refine lv_aload_n hx hb dX10_village_0 rfl (lv_at hl 0 rfl) ?_
  refine gf_X10_10 C hW dX10_village_1 ?_
  obtain ⟨x4, h4, hf⟩ := bd_of hf
  refine r_callV (k := ((2, 0) : Ky)) C hW hl lk_X10_86 (c_X7_use hwf h4) ⟨rfl, rfl⟩ ⟨Nat.le_of_ble_eq_true rfl, Nat.le_of_ble_eq_true rfl⟩ rfl rfl rfl (As := []) (rest := []) rfl rfl (Nat.le_of_ble_eq_true rfl) dX10_village_4 (ca_le hcs) (fun H locs hW => ?_)
  show W p l e (rma 8 191 KC KS) s m args below meth c H locs 0 0 Q (F0 m 7 ls [.int x4.1])
  refine lv_istore_n (lv' := [(1, .int x4.1), (0, .ref (oa (0, 0)))]) hx hb dX10_village_7 rfl hl (by decide) rfl (fun ls hl => ?_)
  refine lv_aload_n hx hb dX10_village_8 rfl (lv_at hl 1 rfl) ?_
  refine gf_X10_64 C hW dX10_village_9 ?_
  obtain ⟨hq1, hf⟩ := ce_of hf
  refine lv_aload_n hx hb dX10_village_12 rfl (lv_at hl 1 rfl) ?_
  refine gf_X10_60 C hW dX10_village_13 ?_
  obtain ⟨hq2, hf⟩ := ce_of hf
  obtain ⟨x16, h16, hf⟩ := bd_of hf
  obtain ⟨kc3, ks3, hf, ek3, es3⟩ := addc_of hf
  have hcs := cs_add hcs ek3 es3
  refine r_callA (k := ((13, (x4.2 (0, 0) 10).toNatClampNeg) : Ky)) C hW hl lk_X10_89 (cA_X6_become hwf hq1 hq2 h16) ⟨Nat.le_of_ble_eq_true rfl, Nat.le_of_ble_eq_true rfl⟩ rfl (faB_13 hq1) rfl (As := [.ref (oa (13, (x4.2 (0, 0) 9).toNatClampNeg))]) (rest := []) rfl rfl (Nat.le_of_ble_eq_true rfl) dX10_village_16 (ca_le hcs) (fun aa H locs hW => ?_)
  show W p l e (rma 8 191 KC KS) s m args below meth c H locs (0 + x16.2.1) (0 + x16.2.2) Q (F0 m 19 ls [])
  refine lv_aload_n hx hb dX10_village_19 rfl (lv_at hl 1 rfl) ?_
  refine gf_X10_42 C hW dX10_village_20 ?_
  refine lv_aload_n hx hb dX10_village_23 rfl (lv_at hl 1 rfl) ?_
  refine gf_X10_10 C hW dX10_village_24 ?_
  refine lv_iload_n hx hb dX10_village_27 rfl (lv_at hl 0 rfl) ?_
  obtain ⟨x28, h28, hf⟩ := bd_of hf
  refine r_callVU (k := ((6, 0) : Ky)) C hW hl lk_X10_93 (c_X8_open_0 hwf h28) ⟨rfl, rfl⟩ ⟨Nat.le_of_ble_eq_true rfl, Nat.le_of_ble_eq_true rfl⟩ rfl rfl rfl (As := [.ref (oa (2, 0)), .int x4.1]) (rest := []) rfl rfl (Nat.le_of_ble_eq_true rfl) dX10_village_28 (ca_le hcs) (fun H locs hW => ?_)
  show W p l e (rma 8 191 KC KS) s m args below meth c H locs (0 + x16.2.1) (0 + x16.2.2) Q (F0 m 31 ls [])
  refine lv_aload_n hx hb dX10_village_31 rfl (lv_at hl 1 rfl) ?_
  refine gf_X10_42 C hW dX10_village_32 ?_
  refine lv_aload_n hx hb dX10_village_35 rfl (lv_at hl 1 rfl) ?_
  refine gf_X10_64 C hW dX10_village_36 ?_
  obtain ⟨hq4, hf⟩ := ce_of hf
  obtain ⟨x39, h39, hf⟩ := bd_of hf
  refine r_callV (k := ((6, 0) : Ky)) C hW hl lk_X10_97 (c_X9_aimAt hwf hq4 h39) ⟨rfl, rfl⟩ ⟨Nat.le_of_ble_eq_true rfl, Nat.le_of_ble_eq_true rfl⟩ rfl rfl rfl (As := [.ref (oa (13, (x28 (0, 0) 10).toNatClampNeg))]) (rest := []) rfl rfl (Nat.le_of_ble_eq_true rfl) dX10_village_39 (ca_le hcs) (fun H locs hW => ?_)
  show W p l e (rma 8 191 KC KS) s m args below meth c H locs (0 + x16.2.1) (0 + x16.2.2) Q (F0 m 42 ls [])
  refine lv_aload_n hx hb dX10_village_42 rfl (lv_at hl 1 rfl) ?_
  refine gf_X10_42 C hW dX10_village_43 ?_
  refine lv_bipush (v := 14) hx hb dX10_village_46 (by decide) ?_
  obtain ⟨x48, h48, hf⟩ := bd_of hf
  obtain ⟨kc5, ks5, hf, ek5, es5⟩ := addc_of hf
  have hcs := cs_add hcs ek5 es5
  refine r_callAU (k := ((6, 0) : Ky)) C hW hl lk_X10_100 (cA_X8_readLines_0 hwf h48) ⟨Nat.le_of_ble_eq_true rfl, Nat.le_of_ble_eq_true rfl⟩ rfl rfl rfl (As := [.int (14 : Int32)]) (rest := []) rfl rfl (Nat.le_of_ble_eq_true rfl) dX10_village_48 (ca_le hcs) (fun aa H locs hW => ?_)
  show W p l e (rma 8 191 KC KS) s m args below meth c H locs ((0 + x16.2.1) + x48.2.1) ((0 + x16.2.2) + x48.2.2) Q (F0 m 51 ls [.int x48.1.1])
  refine lv_istore_n (lv' := [(2, .int x48.1.1), (1, .int x4.1), (0, .ref (oa (0, 0)))]) hx hb dX10_village_51 rfl hl (by decide) rfl (fun ls hl => ?_)
  refine lv_aload_n hx hb dX10_village_52 rfl (lv_at hl 2 rfl) ?_
  refine lv_aload_n hx hb dX10_village_53 rfl (lv_at hl 2 rfl) ?_
  refine gf_X10_42 C hW dX10_village_54 ?_
  obtain ⟨x57, h57, hf⟩ := bd_of hf
  refine r_callVU (k := ((6, 0) : Ky)) C hW hl lk_X10_104 (c_X8_wrong_0 hwf h57) ⟨rfl, rfl⟩ ⟨Nat.le_of_ble_eq_true rfl, Nat.le_of_ble_eq_true rfl⟩ rfl rfl rfl (As := []) (rest := [.ref (oa (0, 0))]) rfl rfl (Nat.le_of_ble_eq_true rfl) dX10_village_57 (ca_le hcs) (fun H locs hW => ?_)
  show W p l e (rma 8 191 KC KS) s m args below meth c H locs ((0 + x16.2.1) + x48.2.1) ((0 + x16.2.2) + x48.2.2) Q (F0 m 60 ls [.int x57, .ref (oa (0, 0))])
  refine pf_X10_67 C hW dX10_village_60 (fun H locs hW => ?_)
  refine lv_iload_n hx hb dX10_village_63 rfl (lv_at hl 0 rfl) ?_
  refine lv_iconst (v := -1) hx hb dX10_village_64 (by decide) ?_
  refine lv_icmp_ne (tgt := 78) hx hb dX10_village_65 (by decide) (fun c6 => ?_) (fun c6 => ?_)
  · have hf := (if_neg c6).symm.trans hf
    refine lv_aload_n hx hb dX10_village_78 rfl (lv_at hl 2 rfl) ?_
    refine gf_X10_60 C hW dX10_village_79 ?_
    obtain ⟨hq7, hf⟩ := ce_of hf
    refine gf_X10_114 C hW hq7 dX10_village_82 ?_
    refine lv_bipush (v := 12) hx hb dX10_village_85 (by decide) ?_
    refine lv_icmp_lt (tgt := 100) hx hb dX10_village_87 (by decide) (fun c8 => ?_) (fun c8 => ?_)
    · have hf := (if_pos c8).symm.trans hf
      refine lv_aload_n hx hb dX10_village_100 rfl (lv_at hl 2 rfl) ?_
      refine gf_X10_64 C hW dX10_village_101 ?_
      obtain ⟨hq9, hf⟩ := ce_of hf
      refine lv_dup hx hb dX10_village_104 rfl ?_
      refine gf_X10_114 C hW hq9 dX10_village_105 ?_
      refine lv_iconst (v := 1) hx hb dX10_village_108 (by decide) ?_
      refine lv_iadd hx hb dX10_village_109 ?_
      refine pf_X10_114 C hW hq9 dX10_village_110 (fun H locs hW => ?_)
      obtain ⟨μ10, hm10, hf⟩ := bd_of hf
      rw [Option.some.inj hm10] at hW
      refine lv_aload_n hx hb dX10_village_113 rfl (lv_at hl 2 rfl) ?_
      refine gf_X10_60 C hW dX10_village_114 ?_
      obtain ⟨hq11, hf⟩ := ce_of hf
      refine lv_astore_n (lv' := [(3, .ref (oa (13, (μ10 (0, 0) 9).toNatClampNeg))), (2, .int x48.1.1), (1, .int x4.1), (0, .ref (oa (0, 0)))]) hx hb dX10_village_117 rfl hl (by decide) rfl (fun ls hl => ?_)
      refine lv_aload_n hx hb dX10_village_118 rfl (lv_at hl 3 rfl) ?_
      refine lv_aload_n hx hb dX10_village_119 rfl (lv_at hl 3 rfl) ?_
      refine gf_X10_64 C hW dX10_village_120 ?_
      obtain ⟨hq12, hf⟩ := ce_of hf
      obtain ⟨hb13, hf⟩ := ce_of hf
      refine pr_X10_60_st0 C hW hb13 dX10_village_123 (fun H locs hW => ?_)
      refine lv_aload_n hx hb dX10_village_126 rfl (lv_at hl 3 rfl) ?_
      refine lv_aload_n hx hb dX10_village_127 rfl (lv_at hl 0 rfl) ?_
      obtain ⟨hb14, hf⟩ := ce_of hf
      refine pr_X10_64_st0 C hW hb14 dX10_village_128 (fun H locs hW => ?_)
      obtain ⟨μ15, hm15, hf⟩ := bd_of hf
      rw [Option.some.inj hm15] at hW
      refine lv_aload_n hx hb dX10_village_131 rfl (lv_at hl 3 rfl) ?_
      obtain ⟨x132, h132, hf⟩ := bd_of hf
      refine r_callV (k := ((0, 0) : Ky)) C hW hl lk_X10_122 (c_X10_forgetPast hwf h132) ⟨rfl, rfl⟩ ⟨Nat.le_of_ble_eq_true rfl, Nat.le_of_ble_eq_true rfl⟩ rfl rfl rfl (As := []) (rest := []) rfl rfl (Nat.le_of_ble_eq_true rfl) dX10_village_132 (ca_le hcs) (fun H locs hW => ?_)
      show W p l e (rma 8 191 KC KS) s m args below meth c H locs ((0 + x16.2.1) + x48.2.1) ((0 + x16.2.2) + x48.2.2) Q (F0 m 135 ls [])
      refine lv_aload_n hx hb dX10_village_135 rfl (lv_at hl 3 rfl) ?_
      refine gf_X10_60 C hW dX10_village_136 ?_
      obtain ⟨hq16, hf⟩ := ce_of hf
      refine gf_X10_114 C hW hq16 dX10_village_139 ?_
      obtain ⟨eo, ek1, ek2⟩ := retA hf
      subst eo
      rw [hQ]
      exact r_iretA C hr hk hW (cs_end hcs).1 (cs_end hcs).2 dX10_village_142
    · have hf := (if_neg c8).symm.trans hf
      cases hf
  · have hf := (if_pos c6).symm.trans hf
    cases hf
set_option maxHeartbeats 4000000 in
set_option maxRecDepth 100000 in
theorem cA_X10_trial {l : Launch} {D : va_G} {tc : Nat → ClassId} {ro : Ro} {oa : Ky → Nat} {sh : Sh} {lm : Nat → Nat} {μ : Mm} {v1 : Int32} {res : Int32 × (Nat → Nat) × Mm} {KC KS : Nat} (hwf : WfS sh) (hf : f_X10_trialA sh lm μ v1 = some (res, KC, KS)) : CtA l D tc ro oa yX10_trial cX10_trial 2 (some .int) (rma 8 203 KC KS) [.ref (oa (0, 0)), .int v1] sh lm μ (some (.int res.1)) res.2.1 res.2.2 := by
  refine CtA.of (by decide) (Nat.le_of_ble_eq_true rfl) (fun aa p e s m args below meth c A C hr hk hW ls hl => ?_)
  have hx := C.1.1
  have hb := C.1.2.1
  obtain ⟨Q, hQ⟩ : ∃ Q, Q = MQ below (Cta D tc oa (some (.int res.1)) sh res.2.1 res.2.2 A) args s (rma 8 203 KC KS).cells (rma 8 203 KC KS).slots A := ⟨_, rfl⟩
  rw [← hQ]
  have hl : lv_has ls 2 [(0, .ref (oa (0, 0))), (1, .int v1)] := hl
  have hcs : 0 + KC ≤ KC ∧ 0 + KS ≤ KS := ⟨by omega, by omega⟩
  unfold f_X10_trialA at hf
  refine lv_aload_n hx hb dX10_trial_0 rfl (lv_at hl 0 rfl) ?_
  refine lv_iload_n hx hb dX10_trial_1 rfl (lv_at hl 1 rfl) ?_
  refine lv_iconst (v := 0) hx hb dX10_trial_2 (by decide) ?_
  refine lv_bipush (v := 30) hx hb dX10_trial_3 (by decide) ?_
  obtain ⟨x5, h5, hf⟩ := bd_of hf
  refine r_callV (k := ((0, 0) : Ky)) C hW hl lk_X10_233 (c_X10_needNumber h5) ⟨rfl, rfl⟩ ⟨Nat.le_of_ble_eq_true rfl, Nat.le_of_ble_eq_true rfl⟩ rfl rfl rfl (As := [.int v1, .int (0 : Int32), .int (30 : Int32)]) (rest := []) rfl rfl (Nat.le_of_ble_eq_true rfl) dX10_trial_5 (ca_le hcs) (fun H locs hW => ?_)
  show W p l e (rma 8 203 KC KS) s m args below meth c H locs 0 0 Q (F0 m 8 ls [])
  refine lv_aload_n hx hb dX10_trial_8 rfl (lv_at hl 0 rfl) ?_
  refine lv_iload_n hx hb dX10_trial_9 rfl (lv_at hl 1 rfl) ?_
  refine lv_aload_n hx hb dX10_trial_10 rfl (lv_at hl 0 rfl) ?_
  refine gf_X10_60 C hW dX10_trial_11 ?_
  obtain ⟨hq1, hf⟩ := ce_of hf
  refine gf_X10_303 C hW hq1 dX10_trial_14 ?_
  obtain ⟨x17, h17, hf⟩ := bd_of hf
  obtain ⟨kc2, ks2, hf, ek2, es2⟩ := addc_of hf
  have hcs := cs_add hcs ek2 es2
  refine r_callA (k := ((0, 0) : Ky)) C hW hl lk_X10_306 (cA_X10_sureBehindStroll hwf h17) ⟨Nat.le_of_ble_eq_true rfl, Nat.le_of_ble_eq_true rfl⟩ rfl rfl rfl (As := [.int v1, .int (μ (13, (μ (0, 0) 9).toNatClampNeg) 5)]) (rest := []) rfl rfl (Nat.le_of_ble_eq_true rfl) dX10_trial_17 (ca_le hcs) (fun aa H locs hW => ?_)
  show W p l e (rma 8 203 KC KS) s m args below meth c H locs (0 + x17.2.1) (0 + x17.2.2) Q (F0 m 20 ls [.int x17.1.1])
  obtain ⟨eo, ek1, ek2⟩ := retA hf
  subst eo
  rw [hQ]
  exact r_iretA C hr hk hW (cs_end hcs).1 (cs_end hcs).2 dX10_trial_20
set_option maxHeartbeats 4000000 in
set_option maxRecDepth 100000 in
theorem cA_X10_span {l : Launch} {D : va_G} {tc : Nat → ClassId} {ro : Ro} {oa : Ky → Nat} {sh : Sh} {lm : Nat → Nat} {μ : Mm} {v1 v2 : Int32} {res : Int32 × (Nat → Nat) × Mm} {KC KS : Nat} (hwf : WfS sh) (hf : f_X10_spanA sh lm μ v1 v2 = some (res, KC, KS)) : CtA l D tc ro oa yX10_span cX10_span 6 (some .int) (rma 8 203 KC KS) [.ref (oa (0, 0)), .int v1, .int v2] sh lm μ (some (.int res.1)) res.2.1 res.2.2 := by
  refine CtA.of (by decide) (Nat.le_of_ble_eq_true rfl) (fun aa p e s m args below meth c A C hr hk hW ls hl => ?_)
  have hx := C.1.1
  have hb := C.1.2.1
  obtain ⟨Q, hQ⟩ : ∃ Q, Q = MQ below (Cta D tc oa (some (.int res.1)) sh res.2.1 res.2.2 A) args s (rma 8 203 KC KS).cells (rma 8 203 KC KS).slots A := ⟨_, rfl⟩
  rw [← hQ]
  have hl : lv_has ls 6 [(0, .ref (oa (0, 0))), (1, .int v1), (2, .int v2)] := hl
  have hcs : 0 + KC ≤ KC ∧ 0 + KS ≤ KS := ⟨by omega, by omega⟩
  unfold f_X10_spanA at hf
  refine lv_aload_n hx hb dX10_span_0 rfl (lv_at hl 0 rfl) ?_
  refine lv_iload_n hx hb dX10_span_1 rfl (lv_at hl 1 rfl) ?_
  refine lv_iconst (v := 0) hx hb dX10_span_2 (by decide) ?_
  refine lv_bipush (v := 30) hx hb dX10_span_3 (by decide) ?_
  obtain ⟨x5, h5, hf⟩ := bd_of hf
  refine r_callV (k := ((0, 0) : Ky)) C hW hl lk_X10_233 (c_X10_needNumber h5) ⟨rfl, rfl⟩ ⟨Nat.le_of_ble_eq_true rfl, Nat.le_of_ble_eq_true rfl⟩ rfl rfl rfl (As := [.int v1, .int (0 : Int32), .int (30 : Int32)]) (rest := []) rfl rfl (Nat.le_of_ble_eq_true rfl) dX10_span_5 (ca_le hcs) (fun H locs hW => ?_)
  show W p l e (rma 8 203 KC KS) s m args below meth c H locs 0 0 Q (F0 m 8 ls [])
  refine lv_aload_n hx hb dX10_span_8 rfl (lv_at hl 0 rfl) ?_
  refine lv_iload_n hx hb dX10_span_9 rfl (lv_at hl 1 rfl) ?_
  refine lv_iconst (v := 1) hx hb dX10_span_10 (by decide) ?_
  obtain ⟨x11, h11, hf⟩ := bd_of hf
  obtain ⟨kc1, ks1, hf, ek1, es1⟩ := addc_of hf
  have hcs := cs_add hcs ek1 es1
  refine r_callA (k := ((0, 0) : Ky)) C hW hl lk_X10_306 (cA_X10_sureBehindStroll hwf h11) ⟨Nat.le_of_ble_eq_true rfl, Nat.le_of_ble_eq_true rfl⟩ rfl rfl rfl (As := [.int v1, .int (1 : Int32)]) (rest := []) rfl rfl (Nat.le_of_ble_eq_true rfl) dX10_span_11 (ca_le hcs) (fun aa H locs hW => ?_)
  show W p l e (rma 8 203 KC KS) s m args below meth c H locs (0 + x11.2.1) (0 + x11.2.2) Q (F0 m 14 ls [.int x11.1.1])
  obtain ⟨x14, h14, hf⟩ := bd_of hf
  refine r_callS C hW hl lk_X10_309 (c_J6_bitCount_0f7a4 h14) ⟨rfl, rfl⟩ ⟨Nat.le_of_ble_eq_true rfl, Nat.le_of_ble_eq_true rfl⟩ (As := [.int x11.1.1]) (rest := []) rfl rfl (Nat.le_of_ble_eq_true rfl) dX10_span_14 (ca_le hcs) (fun H locs hW => ?_)
  show W p l e (rma 8 203 KC KS) s m args below meth c H locs (0 + x11.2.1) (0 + x11.2.2) Q (F0 m 17 ls [.int x14])
  refine lv_istore_n (lv' := [(3, .int x14), (0, .ref (oa (0, 0))), (1, .int v1), (2, .int v2)]) hx hb dX10_span_17 rfl hl (by decide) rfl (fun ls hl => ?_)
  refine lv_iconst (v := 2) hx hb dX10_span_18 (by decide) ?_
  refine lv_istore (lv' := [(4, .int (2 : Int32)), (3, .int x14), (0, .ref (oa (0, 0))), (1, .int v1), (2, .int v2)]) hx hb dX10_span_19 hl (by decide) rfl (fun ls hl => ?_)
  have L21 : ∀ (lm : Nat → Nat) (aa : Nat → Nat) (μ : Mm) (v3 v4 : Int32) (cells slots kc ks : Nat) (H : Heap) (locs : List Loc) (ls : Array Slot), WhC (fun z : (Nat → Nat) × Mm × Int32 × Int32 => f_X10_spanA_L21 sh z.1 v1 v2 z.2.1 z.2.2.1 z.2.2.2) (lm, μ, v3, v4) = some (res, kc, ks) → cells + kc ≤ KC ∧ slots + ks ≤ KS → Wd D (faB oa aa sh) (feB tc oa aa sh lm) A s.heap μ H locs → lv_has ls 6 [(0, .ref (oa (0, 0))), (1, .int v1), (2, .int v2), (3, .int v3), (4, .int v4)] → W p l e (rma 8 203 KC KS) s m args below meth c H locs cells slots Q (F0 m 21 ls []) := by
    intro lm aa μ v3 v4 cells slots kc ks H locs ls hf hcs hW hl
    refine WhC_rule hf (fun (z : (Nat → Nat) × Mm × Int32 × Int32) (kc ks : Nat) => ∀ (aa : Nat → Nat) (cells slots : Nat) (H : Heap) (locs : List Loc) (ls : Array Slot), cells + kc ≤ KC ∧ slots + ks ≤ KS → Wd D (faB oa aa sh) (feB tc oa aa sh z.1) A s.heap z.2.1 H locs → lv_has ls 6 [(0, .ref (oa (0, 0))), (1, .int v1), (2, .int v2), (3, .int z.2.2.1), (4, .int z.2.2.2)] → W p l e (rma 8 203 KC KS) s m args below meth c H locs cells slots Q (F0 m 21 ls [])) (fun z o1 kc ks K1 K2 hf Kl1 Kr1 => ?_) _ _ _ _ _ _ hcs hW hl
    obtain ⟨lm, μ, v3, v4⟩ := z
    intro aa cells slots H locs ls hcs hW hl
    have hf : f_X10_spanA_L21 sh lm v1 v2 μ v3 v4 = some (o1, kc, ks) := hf
    unfold f_X10_spanA_L21 at hf
    have hW : Wd D (faB oa aa sh) (feB tc oa aa sh lm) A s.heap μ H locs := hW
    have hl : lv_has ls 6 [(0, .ref (oa (0, 0))), (1, .int v1), (2, .int v2), (3, .int v3), (4, .int v4)] := hl
    refine lv_iload hx hb dX10_span_21 (lv_at hl 4 rfl) ?_
    refine lv_bipush (v := 6) hx hb dX10_span_23 (by decide) ?_
    refine lv_icmp_gt (tgt := 66) hx hb dX10_span_25 (by decide) (fun c2 => ?_) (fun c2 => ?_)
    · have hf := (if_pos c2).symm.trans hf
      obtain ⟨x9003, hf, hx9003⟩ := mapc_of hf
      obtain ⟨e9003, hK1, hK2⟩ := Kr1 _ hx9003
      have e9003 := e9003.symm
      subst e9003
      have hcs := cs_out hcs hK1 hK2
      refine lv_iload_n hx hb dX10_span_66 rfl (lv_at hl 3 rfl) ?_
      obtain ⟨eo, ek1, ek2⟩ := retA hf
      subst eo
      rw [hQ]
      exact r_iretA C hr hk hW (cs_end hcs).1 (cs_end hcs).2 dX10_span_67
    · have hf := (if_neg c2).symm.trans hf
      refine lv_aload_n hx hb dX10_span_28 rfl (lv_at hl 0 rfl) ?_
      refine lv_iload_n hx hb dX10_span_29 rfl (lv_at hl 1 rfl) ?_
      refine lv_iload hx hb dX10_span_30 (lv_at hl 4 rfl) ?_
      obtain ⟨x32, h32, hf⟩ := bd_of hf
      obtain ⟨kc4, ks4, hf, ek4, es4⟩ := addc_of hf
      have hcs := cs_add1 hcs ek4 es4
      refine r_callA (k := ((0, 0) : Ky)) C hW hl lk_X10_306 (cA_X10_sureBehindStroll hwf h32) ⟨Nat.le_of_ble_eq_true rfl, Nat.le_of_ble_eq_true rfl⟩ rfl rfl rfl (As := [.int v1, .int v4]) (rest := []) rfl rfl (Nat.le_of_ble_eq_true rfl) dX10_span_32 (ca_le hcs) (fun aa H locs hW => ?_)
      show W p l e (rma 8 203 KC KS) s m args below meth c H locs (cells + x32.2.1) (slots + x32.2.2) Q (F0 m 35 ls [.int x32.1.1])
      obtain ⟨x35, h35, hf⟩ := bd_of hf
      refine r_callS C hW hl lk_X10_309 (c_J6_bitCount_0f7a4 h35) ⟨rfl, rfl⟩ ⟨Nat.le_of_ble_eq_true rfl, Nat.le_of_ble_eq_true rfl⟩ (As := [.int x32.1.1]) (rest := []) rfl rfl (Nat.le_of_ble_eq_true rfl) dX10_span_35 (ca_le hcs) (fun H locs hW => ?_)
      show W p l e (rma 8 203 KC KS) s m args below meth c H locs (cells + x32.2.1) (slots + x32.2.2) Q (F0 m 38 ls [.int x35])
      refine lv_istore (lv' := [(5, .int x35), (0, .ref (oa (0, 0))), (1, .int v1), (2, .int v2), (3, .int v3), (4, .int v4)]) hx hb dX10_span_38 hl (by decide) rfl (fun ls hl => ?_)
      refine lv_iload_n hx hb dX10_span_40 rfl (lv_at hl 3 rfl) ?_
      refine lv_if_eq (tgt := 53) hx hb dX10_span_41 (by decide) (fun c5 => ?_) (fun c5 => ?_)
      · have hf := (if_pos c5).symm.trans hf
        refine lv_iload_n hx hb dX10_span_53 rfl (lv_at hl 4 rfl) ?_
        refine lv_iload hx hb dX10_span_54 (lv_at hl 0 rfl) ?_
        refine r_mmin C hl kw_581 kw_560 kw_140 kw_561 (Nat.le_of_ble_eq_true rfl) (Nat.le_of_ble_eq_true rfl) (ca_le hcs) dX10_span_56 ?_
        refine lv_istore_n (lv' := [(3, .int (if x35 < v3 then x35 else v3)), (5, .int x35), (0, .ref (oa (0, 0))), (1, .int v1), (2, .int v2), (4, .int v4)]) hx hb dX10_span_59 rfl hl (by decide) rfl (fun ls hl => ?_)
        refine lv_iinc (v := (v4 + (1 : Int32))) (lv' := [(4, .int (v4 + (1 : Int32))), (3, .int (if x35 < v3 then x35 else v3)), (5, .int x35), (0, .ref (oa (0, 0))), (1, .int v1), (2, .int v2)]) hx hb dX10_span_60 hl (k := 5) rfl rfl (by decide) rfl (fun ls hl => ?_)
        refine lv_goto (tgt := 21) hx hb dX10_span_63 (by decide) ?_
        obtain ⟨eo, ek1, ek2⟩ := retA hf
        subst eo
        exact Kl1 _ rfl _ _ _ _ _ _ (cs_in hcs ek1 ek2) hW (lv_sub hl [3, 4, 5, 1, 0] rfl)
      · have hf := (if_neg c5).symm.trans hf
        refine lv_iload_n hx hb dX10_span_44 rfl (lv_at hl 4 rfl) ?_
        refine lv_iload hx hb dX10_span_45 (lv_at hl 0 rfl) ?_
        refine r_mmax C hl kw_1868 kw_191 kw_140 kw_192 (Nat.le_of_ble_eq_true rfl) (Nat.le_of_ble_eq_true rfl) (ca_le hcs) dX10_span_47 ?_
        refine lv_goto (tgt := 59) hx hb dX10_span_50 (by decide) ?_
        refine lv_istore_n (lv' := [(3, .int (if v3 < x35 then x35 else v3)), (5, .int x35), (0, .ref (oa (0, 0))), (1, .int v1), (2, .int v2), (4, .int v4)]) hx hb dX10_span_59 rfl hl (by decide) rfl (fun ls hl => ?_)
        refine lv_iinc (v := (v4 + (1 : Int32))) (lv' := [(4, .int (v4 + (1 : Int32))), (3, .int (if v3 < x35 then x35 else v3)), (5, .int x35), (0, .ref (oa (0, 0))), (1, .int v1), (2, .int v2)]) hx hb dX10_span_60 hl (k := 5) rfl rfl (by decide) rfl (fun ls hl => ?_)
        refine lv_goto (tgt := 21) hx hb dX10_span_63 (by decide) ?_
        obtain ⟨eo, ek1, ek2⟩ := retA hf
        subst eo
        exact Kl1 _ rfl _ _ _ _ _ _ (cs_in hcs ek1 ek2) hW (lv_sub hl [3, 4, 5, 1, 0] rfl)
  exact L21 _ _ x11.1.2.2 x14 (2 : Int32) _ _ _ _ _ _ _ hf hcs hW (lv_sub hl [2, 3, 4, 1, 0] rfl)
set_option maxHeartbeats 4000000 in
set_option maxRecDepth 100000 in
theorem cA_X10_undo {l : Launch} {D : va_G} {tc : Nat → ClassId} {ro : Ro} {oa : Ky → Nat} {sh : Sh} {lm : Nat → Nat} {μ : Mm} {res : Int32 × (Nat → Nat) × Mm} {KC KS : Nat} (hwf : WfS sh) (hf : f_X10_undoA sh lm μ = some (res, KC, KS)) : CtA l D tc ro oa yX10_undo cX10_undo 1 (some .boolean) (rma 5 147 KC KS) [.ref (oa (0, 0))] sh lm μ (some (.int res.1)) res.2.1 res.2.2 := by
  refine CtA.of (by decide) (Nat.le_of_ble_eq_true rfl) (fun aa p e s m args below meth c A C hr hk hW ls hl => ?_)
  have hx := C.1.1
  have hb := C.1.2.1
  obtain ⟨Q, hQ⟩ : ∃ Q, Q = MQ below (Cta D tc oa (some (.int res.1)) sh res.2.1 res.2.2 A) args s (rma 5 147 KC KS).cells (rma 5 147 KC KS).slots A := ⟨_, rfl⟩
  rw [← hQ]
  have hl : lv_has ls 1 [(0, .ref (oa (0, 0)))] := hl
  have hcs : 0 + KC ≤ KC ∧ 0 + KS ≤ KS := ⟨by omega, by omega⟩
  unfold f_X10_undoA at hf
  refine lv_aload_n hx hb dX10_undo_0 rfl (lv_at hl 0 rfl) ?_
  refine gf_X10_364 C hW dX10_undo_1 ?_
  refine lv_iconst (v := 1) hx hb dX10_undo_4 (by decide) ?_
  refine lv_icmp_ge (tgt := 10) hx hb dX10_undo_5 (by decide) (fun c1 => ?_) (fun c1 => ?_)
  · have hf := (if_pos c1).symm.trans hf
    refine lv_aload_n hx hb dX10_undo_10 rfl (lv_at hl 0 rfl) ?_
    refine lv_dup hx hb dX10_undo_11 rfl ?_
    refine gf_X10_364 C hW dX10_undo_12 ?_
    refine lv_iconst (v := 1) hx hb dX10_undo_15 (by decide) ?_
    refine lv_isub hx hb dX10_undo_16 ?_
    refine pf_X10_364 C hW dX10_undo_17 (fun H locs hW => ?_)
    refine lv_aload_n hx hb dX10_undo_20 rfl (lv_at hl 0 rfl) ?_
    refine lv_aload_n hx hb dX10_undo_21 rfl (lv_at hl 0 rfl) ?_
    refine gf_X10_367 C hW dX10_undo_22 ?_
    refine lv_if_le (tgt := 37) hx hb dX10_undo_25 (by decide) (fun c2 => ?_) (fun c2 => ?_)
    · have hf := (if_pos c2).symm.trans hf
      refine lv_bipush (v := 7) hx hb dX10_undo_37 (by decide) ?_
      refine pf_X10_367 C hW dX10_undo_39 (fun H locs hW => ?_)
      refine lv_aload_n hx hb dX10_undo_42 rfl (lv_at hl 0 rfl) ?_
      refine gf_X10_60 C hW dX10_undo_43 ?_
      obtain ⟨hq3, hf⟩ := ce_of hf
      refine lv_aload_n hx hb dX10_undo_46 rfl (lv_at hl 0 rfl) ?_
      refine lv_aload_n hx hb dX10_undo_47 rfl (lv_at hl 0 rfl) ?_
      refine gf_X10_367 C hW dX10_undo_48 ?_
      obtain ⟨x51, h51, hf⟩ := bd_of hf
      refine r_callV (k := ((0, 0) : Ky)) C hW hl lk_X10_370 (c_X10_pastAt hwf h51) ⟨rfl, rfl⟩ ⟨Nat.le_of_ble_eq_true rfl, Nat.le_of_ble_eq_true rfl⟩ rfl rfl rfl (As := [.int ((mst (mst μ (0, 0) 8 ((μ (0, 0) 8) - (1 : Int32))) (0, 0) 7 (7 : Int32)) (0, 0) 7)]) (rest := [.ref (oa (13, ((mst (mst μ (0, 0) 8 ((μ (0, 0) 8) - (1 : Int32))) (0, 0) 7 (7 : Int32)) (0, 0) 9).toNatClampNeg))]) rfl rfl (Nat.le_of_ble_eq_true rfl) dX10_undo_51 (ca_le hcs) (fun H locs hW => ?_)
      show W p l e (rma 5 147 KC KS) s m args below meth c H locs 0 0 Q (F0 m 54 ls [.ref (oa (13, x51.1)), .ref (oa (13, ((mst (mst μ (0, 0) 8 ((μ (0, 0) 8) - (1 : Int32))) (0, 0) 7 (7 : Int32)) (0, 0) 9).toNatClampNeg))])
      obtain ⟨hq4, hf⟩ := ce_of hf
      obtain ⟨x54, h54, hf⟩ := bd_of hf
      obtain ⟨kc5, ks5, hf, ek5, es5⟩ := addc_of hf
      have hcs := cs_add hcs ek5 es5
      refine r_callA (k := ((13, ((mst (mst μ (0, 0) 8 ((μ (0, 0) 8) - (1 : Int32))) (0, 0) 7 (7 : Int32)) (0, 0) 9).toNatClampNeg) : Ky)) C hW hl lk_X10_89 (cA_X6_become hwf hq3 hq4 h54) ⟨Nat.le_of_ble_eq_true rfl, Nat.le_of_ble_eq_true rfl⟩ rfl (faB_13 hq3) rfl (As := [.ref (oa (13, x51.1))]) (rest := []) rfl rfl (Nat.le_of_ble_eq_true rfl) dX10_undo_54 (ca_le hcs) (fun aa H locs hW => ?_)
      show W p l e (rma 5 147 KC KS) s m args below meth c H locs (0 + x54.2.1) (0 + x54.2.2) Q (F0 m 57 ls [])
      refine lv_aload_n hx hb dX10_undo_57 rfl (lv_at hl 0 rfl) ?_
      refine gf_X10_60 C hW dX10_undo_58 ?_
      obtain ⟨hq6, hf⟩ := ce_of hf
      refine lv_iconst (v := 1) hx hb dX10_undo_61 (by decide) ?_
      refine pf_X10_374 C hW hq6 rfl rfl dX10_undo_62 (fun H locs hW => ?_)
      refine lv_iconst (v := 1) hx hb dX10_undo_65 (by decide) ?_
      obtain ⟨eo, ek1, ek2⟩ := retA hf
      subst eo
      rw [hQ]
      exact r_zretA C hr hk hW (Or.inr rfl) (cs_end hcs).1 (cs_end hcs).2 dX10_undo_66
    · have hf := (if_neg c2).symm.trans hf
      refine lv_aload_n hx hb dX10_undo_28 rfl (lv_at hl 0 rfl) ?_
      refine gf_X10_367 C hW dX10_undo_29 ?_
      refine lv_iconst (v := 1) hx hb dX10_undo_32 (by decide) ?_
      refine lv_isub hx hb dX10_undo_33 ?_
      refine lv_goto (tgt := 39) hx hb dX10_undo_34 (by decide) ?_
      refine pf_X10_367 C hW dX10_undo_39 (fun H locs hW => ?_)
      obtain ⟨μ7, hm7, hf⟩ := bd_of hf
      rw [Option.some.inj hm7] at hW
      refine lv_aload_n hx hb dX10_undo_42 rfl (lv_at hl 0 rfl) ?_
      refine gf_X10_60 C hW dX10_undo_43 ?_
      obtain ⟨hq8, hf⟩ := ce_of hf
      refine lv_aload_n hx hb dX10_undo_46 rfl (lv_at hl 0 rfl) ?_
      refine lv_aload_n hx hb dX10_undo_47 rfl (lv_at hl 0 rfl) ?_
      refine gf_X10_367 C hW dX10_undo_48 ?_
      obtain ⟨x51, h51, hf⟩ := bd_of hf
      refine r_callV (k := ((0, 0) : Ky)) C hW hl lk_X10_370 (c_X10_pastAt hwf h51) ⟨rfl, rfl⟩ ⟨Nat.le_of_ble_eq_true rfl, Nat.le_of_ble_eq_true rfl⟩ rfl rfl rfl (As := [.int (μ7 (0, 0) 7)]) (rest := [.ref (oa (13, (μ7 (0, 0) 9).toNatClampNeg))]) rfl rfl (Nat.le_of_ble_eq_true rfl) dX10_undo_51 (ca_le hcs) (fun H locs hW => ?_)
      show W p l e (rma 5 147 KC KS) s m args below meth c H locs 0 0 Q (F0 m 54 ls [.ref (oa (13, x51.1)), .ref (oa (13, (μ7 (0, 0) 9).toNatClampNeg))])
      obtain ⟨hq9, hf⟩ := ce_of hf
      obtain ⟨x54, h54, hf⟩ := bd_of hf
      obtain ⟨kc10, ks10, hf, ek10, es10⟩ := addc_of hf
      have hcs := cs_add hcs ek10 es10
      refine r_callA (k := ((13, (μ7 (0, 0) 9).toNatClampNeg) : Ky)) C hW hl lk_X10_89 (cA_X6_become hwf hq8 hq9 h54) ⟨Nat.le_of_ble_eq_true rfl, Nat.le_of_ble_eq_true rfl⟩ rfl (faB_13 hq8) rfl (As := [.ref (oa (13, x51.1))]) (rest := []) rfl rfl (Nat.le_of_ble_eq_true rfl) dX10_undo_54 (ca_le hcs) (fun aa H locs hW => ?_)
      show W p l e (rma 5 147 KC KS) s m args below meth c H locs (0 + x54.2.1) (0 + x54.2.2) Q (F0 m 57 ls [])
      refine lv_aload_n hx hb dX10_undo_57 rfl (lv_at hl 0 rfl) ?_
      refine gf_X10_60 C hW dX10_undo_58 ?_
      obtain ⟨hq11, hf⟩ := ce_of hf
      refine lv_iconst (v := 1) hx hb dX10_undo_61 (by decide) ?_
      refine pf_X10_374 C hW hq11 rfl rfl dX10_undo_62 (fun H locs hW => ?_)
      refine lv_iconst (v := 1) hx hb dX10_undo_65 (by decide) ?_
      obtain ⟨eo, ek1, ek2⟩ := retA hf
      subst eo
      rw [hQ]
      exact r_zretA C hr hk hW (Or.inr rfl) (cs_end hcs).1 (cs_end hcs).2 dX10_undo_66
  · have hf := (if_neg c1).symm.trans hf
    refine lv_iconst (v := 0) hx hb dX10_undo_8 (by decide) ?_
    obtain ⟨eo, ek1, ek2⟩ := retA hf
    subst eo
    rw [hQ]
    exact r_zretA C hr hk hW (Or.inl rfl) (cs_end hcs).1 (cs_end hcs).2 dX10_undo_9
set_option maxHeartbeats 4000000 in
set_option maxRecDepth 100000 in
theorem cA_X10_back {l : Launch} {D : va_G} {tc : Nat → ClassId} {ro : Ro} {oa : Ky → Nat} {sh : Sh} {lm : Nat → Nat} {μ : Mm} {res : Int32 × (Nat → Nat) × Mm} {KC KS : Nat} (hwf : WfS sh) (hf : f_X10_backA sh lm μ = some (res, KC, KS)) : CtA l D tc ro oa yX10_back cX10_back 1 (some .boolean) (rma 5 147 KC KS) [.ref (oa (0, 0))] sh lm μ (some (.int res.1)) res.2.1 res.2.2 := by
  refine CtA.of (by decide) (Nat.le_of_ble_eq_true rfl) (fun aa p e s m args below meth c A C hr hk hW ls hl => ?_)
  have hx := C.1.1
  have hb := C.1.2.1
  obtain ⟨Q, hQ⟩ : ∃ Q, Q = MQ below (Cta D tc oa (some (.int res.1)) sh res.2.1 res.2.2 A) args s (rma 5 147 KC KS).cells (rma 5 147 KC KS).slots A := ⟨_, rfl⟩
  rw [← hQ]
  have hl : lv_has ls 1 [(0, .ref (oa (0, 0)))] := hl
  have hcs : 0 + KC ≤ KC ∧ 0 + KS ≤ KS := ⟨by omega, by omega⟩
  unfold f_X10_backA at hf
  refine lv_aload_n hx hb dX10_back_0 rfl (lv_at hl 0 rfl) ?_
  by_cases q1 : sh 2 10 = 0
  · have hf := (if_pos q1).symm.trans hf
    refine gn_X10_378 C hW q1 dX10_back_1 ?_
    refine lv_ifnonnullN hx hb dX10_back_4 ?_
    refine lv_iconst (v := 0) hx hb dX10_back_7 (by decide) ?_
    obtain ⟨eo, ek1, ek2⟩ := retA hf
    subst eo
    rw [hQ]
    exact r_zretA C hr hk hW (Or.inl rfl) (cs_end hcs).1 (cs_end hcs).2 dX10_back_8
  · have hf := (if_neg q1).symm.trans hf
    refine gf_X10_378 C hW q1 dX10_back_1 ?_
    refine lv_ifnonnull (tgt := 9) hx hb dX10_back_4 (by decide) ?_
    refine lv_aload_n hx hb dX10_back_9 rfl (lv_at hl 0 rfl) ?_
    refine gf_X10_60 C hW dX10_back_10 ?_
    obtain ⟨hq2, hf⟩ := ce_of hf
    refine lv_aload_n hx hb dX10_back_13 rfl (lv_at hl 0 rfl) ?_
    by_cases q3 : sh 2 10 = 0
    · have hf := (if_pos q3).symm.trans hf
      refine gn_X10_378 C hW q3 dX10_back_14 ?_
      cases hf
    · have hf := (if_neg q3).symm.trans hf
      refine gf_X10_378 C hW q3 dX10_back_14 ?_
      obtain ⟨x17, h17, hf⟩ := bd_of hf
      obtain ⟨kc4, ks4, hf, ek4, es4⟩ := addc_of hf
      have hcs := cs_add hcs ek4 es4
      refine r_callA (k := ((13, (μ (0, 0) 9).toNatClampNeg) : Ky)) C hW hl lk_X10_89 (cA_X6_become hwf hq2 (kept_ex hwf q3) h17) ⟨Nat.le_of_ble_eq_true rfl, Nat.le_of_ble_eq_true rfl⟩ rfl (faB_13 hq2) rfl (As := [.ref (oa (13, 10))]) (rest := []) rfl rfl (Nat.le_of_ble_eq_true rfl) dX10_back_17 (ca_le hcs) (fun aa H locs hW => ?_)
      show W p l e (rma 5 147 KC KS) s m args below meth c H locs (0 + x17.2.1) (0 + x17.2.2) Q (F0 m 20 ls [])
      refine lv_aload_n hx hb dX10_back_20 rfl (lv_at hl 0 rfl) ?_
      obtain ⟨x21, h21, hf⟩ := bd_of hf
      refine r_callV (k := ((0, 0) : Ky)) C hW hl lk_X10_122 (c_X10_forgetPast hwf h21) ⟨rfl, rfl⟩ ⟨Nat.le_of_ble_eq_true rfl, Nat.le_of_ble_eq_true rfl⟩ rfl rfl rfl (As := []) (rest := []) rfl rfl (Nat.le_of_ble_eq_true rfl) dX10_back_21 (ca_le hcs) (fun H locs hW => ?_)
      show W p l e (rma 5 147 KC KS) s m args below meth c H locs (0 + x17.2.1) (0 + x17.2.2) Q (F0 m 24 ls [])
      refine lv_iconst (v := 1) hx hb dX10_back_24 (by decide) ?_
      obtain ⟨eo, ek1, ek2⟩ := retA hf
      subst eo
      rw [hQ]
      exact r_zretA C hr hk hW (Or.inr rfl) (cs_end hcs).1 (cs_end hcs).2 dX10_back_25
