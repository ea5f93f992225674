set_option maxHeartbeats 4000000 in
set_option maxRecDepth 100000 in
theorem c_X10_image {l : Launch} {D : va_G} {tc : Nat → ClassId} {ro : Ro} {oa : Ky → Nat} {aa : Nat → Nat} {sh : Sh} {ln : Nat → Nat} {μ : Mm} {res : Mm} (hwf : WfS sh) (hf : f_X10_image sh ln μ = some res) : Ct l D tc ro (faB oa aa sh) (feB tc oa aa sh ln) yX10_image cX10_image 1 none (rmq 3 104) [.ref (oa (0, 0))] μ none res := by
  refine Ct.of (by decide) (Nat.le_of_ble_eq_true rfl) (fun p e s m args below meth c A C hr hk hW ls hl => ?_)
  have hx := C.1.1
  have hb := C.1.2.1
  obtain ⟨Q, hQ⟩ : ∃ Q, Q = MQ below (Ctq D (faB oa aa sh) (feB tc oa aa sh ln) none res A) args s 0 0 A := ⟨_, rfl⟩
  rw [← hQ]
  have hl : lv_has ls 1 [(0, .ref (oa (0, 0)))] := hl
  unfold f_X10_image at hf
  refine lv_aload_n hx hb dX10_image_0 rfl (lv_at hl 0 rfl) ?_
  by_cases q1 : sh 2 10 = 0
  · have hf := (if_pos q1).symm.trans hf
    refine gn_X10_378 C hW q1 dX10_image_1 ?_
    refine lv_ifnonnullN hx hb dX10_image_4 ?_
    refine lv_aload_n hx hb dX10_image_7 rfl (lv_at hl 0 rfl) ?_
    cases hf
  · have hf := (if_neg q1).symm.trans hf
    refine gf_X10_378 C hW q1 dX10_image_1 ?_
    refine lv_ifnonnull (tgt := 18) hx hb dX10_image_4 (by decide) ?_
    refine lv_aload_n hx hb dX10_image_18 rfl (lv_at hl 0 rfl) ?_
    by_cases q2 : sh 2 10 = 0
    · have hf := (if_pos q2).symm.trans hf
      refine gn_X10_378 C hW q2 dX10_image_19 ?_
      refine lv_aload_n hx hb dX10_image_22 rfl (lv_at hl 0 rfl) ?_
      refine gf_X10_60 C hW dX10_image_23 ?_
      obtain ⟨hq3, hf⟩ := ce_of hf
      cases hf
    · have hf := (if_neg q2).symm.trans hf
      refine gf_X10_378 C hW q2 dX10_image_19 ?_
      refine lv_aload_n hx hb dX10_image_22 rfl (lv_at hl 0 rfl) ?_
      refine gf_X10_60 C hW dX10_image_23 ?_
      obtain ⟨hq4, hf⟩ := ce_of hf
      obtain ⟨x26, h26, hf⟩ := bd_of hf
      refine r_callV (k := ((13, 10) : Ky)) C hW hl lk_X10_89 (c_X6_become hwf (kept_ex hwf q2) hq4 h26) ⟨rfl, rfl⟩ ⟨Nat.le_of_ble_eq_true rfl, Nat.le_of_ble_eq_true rfl⟩ rfl (faB_13 (kept_ex hwf q2)) rfl (As := [.ref (oa (13, (μ (0, 0) 9).toNatClampNeg))]) (rest := []) rfl rfl (Nat.le_of_ble_eq_true rfl) dX10_image_26 ⟨Nat.zero_le _, Nat.zero_le _⟩ (fun H locs hW => ?_)
      show W p l e (rmq 3 104) s m args below meth c H locs 0 0 Q (F0 m 29 ls [])
      obtain rfl := Option.some.inj hf
      rw [hQ]
      exact r_vret C hr hk hW rfl rfl dX10_image_29
set_option maxHeartbeats 4000000 in
set_option maxRecDepth 100000 in
theorem c_X10_back {l : Launch} {D : va_G} {tc : Nat → ClassId} {ro : Ro} {oa : Ky → Nat} {aa : Nat → Nat} {sh : Sh} {ln : Nat → Nat} {μ : Mm} {res : Int32 × Mm} (hwf : WfS sh) (hf : f_X10_back sh ln μ = some res) : Ct l D tc ro (faB oa aa sh) (feB tc oa aa sh ln) yX10_back cX10_back 1 (some .boolean) (rmq 3 104) [.ref (oa (0, 0))] μ (some (.int res.1)) res.2 := by
  refine Ct.of (by decide) (Nat.le_of_ble_eq_true rfl) (fun p e s m args below meth c A C hr hk hW ls hl => ?_)
  have hx := C.1.1
  have hb := C.1.2.1
  obtain ⟨Q, hQ⟩ : ∃ Q, Q = MQ below (Ctq D (faB oa aa sh) (feB tc oa aa sh ln) (some (.int res.1)) res.2 A) args s 0 0 A := ⟨_, rfl⟩
  rw [← hQ]
  have hl : lv_has ls 1 [(0, .ref (oa (0, 0)))] := hl
  unfold f_X10_back at hf
  refine lv_aload_n hx hb dX10_back_0 rfl (lv_at hl 0 rfl) ?_
  by_cases q1 : sh 2 10 = 0
  · have hf := (if_pos q1).symm.trans hf
    refine gn_X10_378 C hW q1 dX10_back_1 ?_
    refine lv_ifnonnullN hx hb dX10_back_4 ?_
    refine lv_iconst (v := 0) hx hb dX10_back_7 (by decide) ?_
    obtain rfl := Option.some.inj hf
    rw [hQ]
    exact r_zret C hr hk hW (Or.inl rfl) rfl rfl dX10_back_8
  · have hf := (if_neg q1).symm.trans hf
    refine gf_X10_378 C hW q1 dX10_back_1 ?_
    refine lv_ifnonnull (tgt := 9) hx hb dX10_back_4 (by decide) ?_
    refine lv_aload_n hx hb dX10_back_9 rfl (lv_at hl 0 rfl) ?_
    refine gf_X10_60 C hW dX10_back_10 ?_
    obtain ⟨hq2, hf⟩ := ce_of hf
    refine lv_aload_n hx hb dX10_back_13 rfl (lv_at hl 0 rfl) ?_
    by_cases q3 : sh 2 10 = 0
    · have hf := (if_pos q3).symm.trans hf
      refine gn_X10_378 C hW q3 dX10_back_14 ?_
      cases hf
    · have hf := (if_neg q3).symm.trans hf
      refine gf_X10_378 C hW q3 dX10_back_14 ?_
      obtain ⟨x17, h17, hf⟩ := bd_of hf
      refine r_callV (k := ((13, (μ (0, 0) 9).toNatClampNeg) : Ky)) C hW hl lk_X10_89 (c_X6_become hwf hq2 (kept_ex hwf q3) h17) ⟨rfl, rfl⟩ ⟨Nat.le_of_ble_eq_true rfl, Nat.le_of_ble_eq_true rfl⟩ rfl (faB_13 hq2) rfl (As := [.ref (oa (13, 10))]) (rest := []) rfl rfl (Nat.le_of_ble_eq_true rfl) dX10_back_17 ⟨Nat.zero_le _, Nat.zero_le _⟩ (fun H locs hW => ?_)
      show W p l e (rmq 3 104) s m args below meth c H locs 0 0 Q (F0 m 20 ls [])
      refine lv_aload_n hx hb dX10_back_20 rfl (lv_at hl 0 rfl) ?_
      obtain ⟨x21, h21, hf⟩ := bd_of hf
      refine r_callV (k := ((0, 0) : Ky)) C hW hl lk_X10_122 (c_X10_forgetPast hwf h21) ⟨rfl, rfl⟩ ⟨Nat.le_of_ble_eq_true rfl, Nat.le_of_ble_eq_true rfl⟩ rfl rfl rfl (As := []) (rest := []) rfl rfl (Nat.le_of_ble_eq_true rfl) dX10_back_21 ⟨Nat.zero_le _, Nat.zero_le _⟩ (fun H locs hW => ?_)
      show W p l e (rmq 3 104) s m args below meth c H locs 0 0 Q (F0 m 24 ls [])
      refine lv_iconst (v := 1) hx hb dX10_back_24 (by decide) ?_
      obtain rfl := Option.some.inj hf
      rw [hQ]
      exact r_zret C hr hk hW (Or.inr rfl) rfl rfl dX10_back_25
set_option maxHeartbeats 4000000 in
set_option maxRecDepth 100000 in
theorem c_X10_count {l : Launch} {D : va_G} {tc : Nat → ClassId} {ro : Ro} {oa : Ky → Nat} {aa : Nat → Nat} {sh : Sh} {ln : Nat → Nat} {μ : Mm} {v1 : Int32} {res : Int32} (hwf : WfS sh) (hf : f_X10_count sh ln μ v1 = some res) : Ct l D tc ro (faB oa aa sh) (feB tc oa aa sh ln) yX10_count cX10_count 2 (some .int) (rmq 4 96) [.ref (oa (0, 0)), .int v1] μ (some (.int res)) μ := by
  refine Ct.of (by decide) (Nat.le_of_ble_eq_true rfl) (fun p e s m args below meth c A C hr hk hW ls hl => ?_)
  have hx := C.1.1
  have hb := C.1.2.1
  obtain ⟨Q, hQ⟩ : ∃ Q, Q = MQ below (Ctq D (faB oa aa sh) (feB tc oa aa sh ln) (some (.int res)) μ A) args s 0 0 A := ⟨_, rfl⟩
  rw [← hQ]
  have hl : lv_has ls 2 [(0, .ref (oa (0, 0))), (1, .int v1)] := hl
  unfold f_X10_count at hf
  refine lv_iload_n hx hb dX10_count_0 rfl (lv_at hl 1 rfl) ?_
  by_cases c2 : v1 = (0 : Int32)
  · have hf := (if_pos c2).symm.trans hf
    refine lv_tableIn (off := 59) (tgt := 60) hx hb dX10_count_1 (by rw [c2]; decide) (by rw [c2]; decide) (by rw [c2]; rfl) (by decide) ?_
    refine lv_aload_n hx hb dX10_count_60 rfl (lv_at hl 0 rfl) ?_
    refine gf_X10_60 C hW dX10_count_61 ?_
    obtain ⟨hq3, hf⟩ := ce_of hf
    refine gf_X10_293 C hW hq3 dX10_count_64 ?_
    obtain rfl := Option.some.inj hf
    rw [hQ]
    exact r_iret C hr hk hW rfl rfl dX10_count_67
  · have hf := (if_neg c2).symm.trans hf
    have n2 := lv_neT c2 (a := 0) (by decide)
    by_cases c4 : v1 = (1 : Int32)
    · have hf := (if_pos c4).symm.trans hf
      refine lv_tableIn (off := 67) (tgt := 68) hx hb dX10_count_1 (by rw [c4]; decide) (by rw [c4]; decide) (by rw [c4]; rfl) (by decide) ?_
      refine lv_aload_n hx hb dX10_count_68 rfl (lv_at hl 0 rfl) ?_
      refine gf_X10_60 C hW dX10_count_69 ?_
      obtain ⟨hq5, hf⟩ := ce_of hf
      refine gf_X10_381 C hW hq5 dX10_count_72 ?_
      obtain rfl := Option.some.inj hf
      rw [hQ]
      exact r_iret C hr hk hW rfl rfl dX10_count_75
    · have hf := (if_neg c4).symm.trans hf
      have n4 := lv_neT c4 (a := 1) (by decide)
      by_cases c6 : v1 = (2 : Int32)
      · have hf := (if_pos c6).symm.trans hf
        refine lv_tableIn (off := 75) (tgt := 76) hx hb dX10_count_1 (by rw [c6]; decide) (by rw [c6]; decide) (by rw [c6]; rfl) (by decide) ?_
        refine lv_aload_n hx hb dX10_count_76 rfl (lv_at hl 0 rfl) ?_
        refine gf_X10_60 C hW dX10_count_77 ?_
        obtain ⟨hq7, hf⟩ := ce_of hf
        refine gf_X10_114 C hW hq7 dX10_count_80 ?_
        obtain rfl := Option.some.inj hf
        rw [hQ]
        exact r_iret C hr hk hW rfl rfl dX10_count_83
      · have hf := (if_neg c6).symm.trans hf
        have n6 := lv_neT c6 (a := 2) (by decide)
        by_cases c8 : v1 = (3 : Int32)
        · have hf := (if_pos c8).symm.trans hf
          refine lv_tableIn (off := 83) (tgt := 84) hx hb dX10_count_1 (by rw [c8]; decide) (by rw [c8]; decide) (by rw [c8]; rfl) (by decide) ?_
          refine lv_aload_n hx hb dX10_count_84 rfl (lv_at hl 0 rfl) ?_
          refine gf_X10_60 C hW dX10_count_85 ?_
          obtain ⟨hq9, hf⟩ := ce_of hf
          by_cases q10 : μ (13, (μ (0, 0) 9).toNatClampNeg) 8 = 0
          · have hf := (if_pos q10).symm.trans hf
            refine gn_X10_137 C hW hq9 q10 dX10_count_88 ?_
            refine lv_ifnonnullN hx hb dX10_count_91 ?_
            refine lv_iconst (v := -1) hx hb dX10_count_94 (by decide) ?_
            refine lv_goto (tgt := 108) hx hb dX10_count_95 (by decide) ?_
            obtain rfl := Option.some.inj hf
            rw [hQ]
            exact r_iret C hr hk hW rfl rfl dX10_count_108
          · have hf := (if_neg q10).symm.trans hf
            refine gf_X10_137 C hW hq9 q10 dX10_count_88 ?_
            obtain ⟨hq10, hf⟩ := ce_of hf
            refine lv_ifnonnull (tgt := 98) hx hb dX10_count_91 (by decide) ?_
            refine lv_aload_n hx hb dX10_count_98 rfl (lv_at hl 0 rfl) ?_
            refine gf_X10_60 C hW dX10_count_99 ?_
            obtain ⟨hq11, hf⟩ := ce_of hf
            by_cases q12 : μ (13, (μ (0, 0) 9).toNatClampNeg) 8 = 0
            · have hf := (if_pos q12).symm.trans hf
              refine gn_X10_137 C hW hq11 q12 dX10_count_102 ?_
              cases hf
            · have hf := (if_neg q12).symm.trans hf
              refine gf_X10_137 C hW hq11 q12 dX10_count_102 ?_
              obtain ⟨hq12, hf⟩ := ce_of hf
              obtain ⟨x105, h105, hf⟩ := bd_of hf
              refine r_callV (k := ((14, (μ (13, (μ (0, 0) 9).toNatClampNeg) 8).toNatClampNeg - 1) : Ky)) C hW hl lk_X10_384 (c_X2_lines hwf hq12 h105) ⟨rfl, rfl⟩ ⟨Nat.le_of_ble_eq_true rfl, Nat.le_of_ble_eq_true rfl⟩ rfl (faB_14 hq12) rfl (As := []) (rest := []) rfl rfl (Nat.le_of_ble_eq_true rfl) dX10_count_105 ⟨Nat.zero_le _, Nat.zero_le _⟩ (fun H locs hW => ?_)
              show W p l e (rmq 4 96) s m args below meth c H locs 0 0 Q (F0 m 108 ls [.int x105])
              obtain rfl := Option.some.inj hf
              rw [hQ]
              exact r_iret C hr hk hW rfl rfl dX10_count_108
        · have hf := (if_neg c8).symm.trans hf
          have n8 := lv_neT c8 (a := 3) (by decide)
          by_cases c13 : v1 = (4 : Int32)
          · have hf := (if_pos c13).symm.trans hf
            refine lv_tableIn (off := 108) (tgt := 109) hx hb dX10_count_1 (by rw [c13]; decide) (by rw [c13]; decide) (by rw [c13]; rfl) (by decide) ?_
            refine lv_aload_n hx hb dX10_count_109 rfl (lv_at hl 0 rfl) ?_
            refine gf_X10_60 C hW dX10_count_110 ?_
            obtain ⟨hq14, hf⟩ := ce_of hf
            refine gf_X10_389 C hW hq14 dX10_count_113 ?_
            obtain rfl := Option.some.inj hf
            rw [hQ]
            exact r_iret C hr hk hW rfl rfl dX10_count_116
          · have hf := (if_neg c13).symm.trans hf
            have n13 := lv_neT c13 (a := 4) (by decide)
            by_cases c15 : v1 = (5 : Int32)
            · have hf := (if_pos c15).symm.trans hf
              refine lv_tableIn (off := 116) (tgt := 117) hx hb dX10_count_1 (by rw [c15]; decide) (by rw [c15]; decide) (by rw [c15]; rfl) (by decide) ?_
              refine lv_aload_n hx hb dX10_count_117 rfl (lv_at hl 0 rfl) ?_
              refine gf_X10_60 C hW dX10_count_118 ?_
              obtain ⟨hq16, hf⟩ := ce_of hf
              refine gf_X10_392 C hW hq16 dX10_count_121 ?_
              obtain rfl := Option.some.inj hf
              rw [hQ]
              exact r_iret C hr hk hW rfl rfl dX10_count_124
            · have hf := (if_neg c15).symm.trans hf
              have n15 := lv_neT c15 (a := 5) (by decide)
              by_cases c17 : v1 = (6 : Int32)
              · have hf := (if_pos c17).symm.trans hf
                refine lv_tableIn (off := 124) (tgt := 125) hx hb dX10_count_1 (by rw [c17]; decide) (by rw [c17]; decide) (by rw [c17]; rfl) (by decide) ?_
                refine lv_aload_n hx hb dX10_count_125 rfl (lv_at hl 0 rfl) ?_
                refine gf_X10_19 C hW dX10_count_126 ?_
                refine lv_aload_n hx hb dX10_count_129 rfl (lv_at hl 0 rfl) ?_
                refine gf_X10_60 C hW dX10_count_130 ?_
                obtain ⟨hq18, hf⟩ := ce_of hf
                obtain ⟨x133, h133, hf⟩ := bd_of hf
                refine r_callV (k := ((3, 0) : Ky)) C hW hl lk_X10_395 (c_X4_manyLeft hwf hq18 h133) ⟨rfl, rfl⟩ ⟨Nat.le_of_ble_eq_true rfl, Nat.le_of_ble_eq_true rfl⟩ rfl rfl rfl (As := [.ref (oa (13, (μ (0, 0) 9).toNatClampNeg))]) (rest := []) rfl rfl (Nat.le_of_ble_eq_true rfl) dX10_count_133 ⟨Nat.zero_le _, Nat.zero_le _⟩ (fun H locs hW => ?_)
                show W p l e (rmq 4 96) s m args below meth c H locs 0 0 Q (F0 m 136 ls [.int x133])
                obtain rfl := Option.some.inj hf
                rw [hQ]
                exact r_iret C hr hk hW rfl rfl dX10_count_136
              · have hf := (if_neg c17).symm.trans hf
                have n17 := lv_neT c17 (a := 6) (by decide)
                by_cases c19 : v1 = (7 : Int32)
                · have hf := (if_pos c19).symm.trans hf
                  refine lv_tableIn (off := 136) (tgt := 137) hx hb dX10_count_1 (by rw [c19]; decide) (by rw [c19]; decide) (by rw [c19]; rfl) (by decide) ?_
                  refine lv_aload_n hx hb dX10_count_137 rfl (lv_at hl 0 rfl) ?_
                  refine gf_X10_60 C hW dX10_count_138 ?_
                  obtain ⟨hq20, hf⟩ := ce_of hf
                  refine gf_X10_144 C hW hq20 dX10_count_141 ?_
                  obtain rfl := Option.some.inj hf
                  rw [hQ]
                  exact r_iret C hr hk hW rfl rfl dX10_count_144
                · have hf := (if_neg c19).symm.trans hf
                  have n19 := lv_neT c19 (a := 7) (by decide)
                  by_cases c21 : v1 = (8 : Int32)
                  · have hf := (if_pos c21).symm.trans hf
                    refine lv_tableIn (off := 144) (tgt := 145) hx hb dX10_count_1 (by rw [c21]; decide) (by rw [c21]; decide) (by rw [c21]; rfl) (by decide) ?_
                    refine lv_aload_n hx hb dX10_count_145 rfl (lv_at hl 0 rfl) ?_
                    refine gf_X10_19 C hW dX10_count_146 ?_
                    refine lv_aload_n hx hb dX10_count_149 rfl (lv_at hl 0 rfl) ?_
                    refine gf_X10_60 C hW dX10_count_150 ?_
                    obtain ⟨hq22, hf⟩ := ce_of hf
                    refine lv_aload_n hx hb dX10_count_153 rfl (lv_at hl 0 rfl) ?_
                    refine gf_X10_60 C hW dX10_count_154 ?_
                    obtain ⟨hq23, hf⟩ := ce_of hf
                    refine gf_X10_163 C hW hq23 dX10_count_157 ?_
                    obtain ⟨x160, h160, hf⟩ := bd_of hf
                    refine r_callV (k := ((3, 0) : Ky)) C hW hl lk_X10_398 (c_X4_sureBits hwf hq22 (cex_st hq23 (by decide)) h160) ⟨rfl, rfl⟩ ⟨Nat.le_of_ble_eq_true rfl, Nat.le_of_ble_eq_true rfl⟩ rfl rfl rfl (As := [.ref (oa (13, (μ (0, 0) 9).toNatClampNeg)), .ref (oa (11, 15 + 5 * ((μ (0, 0) 9).toNatClampNeg) + 2))]) (rest := []) rfl rfl (Nat.le_of_ble_eq_true rfl) dX10_count_160 ⟨Nat.zero_le _, Nat.zero_le _⟩ (fun H locs hW => ?_)
                    show W p l e (rmq 4 96) s m args below meth c H locs 0 0 Q (F0 m 163 ls [.int x160])
                    obtain rfl := Option.some.inj hf
                    rw [hQ]
                    exact r_iret C hr hk hW rfl rfl dX10_count_163
                  · have hf := (if_neg c21).symm.trans hf
                    have n21 := lv_neT c21 (a := 8) (by decide)
                    by_cases c24 : v1 = (9 : Int32)
                    · have hf := (if_pos c24).symm.trans hf
                      refine lv_tableIn (off := 163) (tgt := 164) hx hb dX10_count_1 (by rw [c24]; decide) (by rw [c24]; decide) (by rw [c24]; rfl) (by decide) ?_
                      refine lv_aload_n hx hb dX10_count_164 rfl (lv_at hl 0 rfl) ?_
                      refine gf_X10_60 C hW dX10_count_165 ?_
                      obtain ⟨hq25, hf⟩ := ce_of hf
                      refine gf_X10_353 C hW hq25 dX10_count_168 ?_
                      obtain rfl := Option.some.inj hf
                      rw [hQ]
                      exact r_iret C hr hk hW rfl rfl dX10_count_171
                    · have hf := (if_neg c24).symm.trans hf
                      have n24 := lv_neT c24 (a := 9) (by decide)
                      by_cases c26 : v1 = (10 : Int32)
                      · have hf := (if_pos c26).symm.trans hf
                        refine lv_tableIn (off := 171) (tgt := 172) hx hb dX10_count_1 (by rw [c26]; decide) (by rw [c26]; decide) (by rw [c26]; rfl) (by decide) ?_
                        refine lv_aload_n hx hb dX10_count_172 rfl (lv_at hl 0 rfl) ?_
                        refine gf_X10_364 C hW dX10_count_173 ?_
                        obtain rfl := Option.some.inj hf
                        rw [hQ]
                        exact r_iret C hr hk hW rfl rfl dX10_count_176
                      · have hf := (if_neg c26).symm.trans hf
                        have n26 := lv_neT c26 (a := 10) (by decide)
                        refine lv_tableOut (tgt := 177) hx hb dX10_count_1 (by omega) (by decide) ?_
                        refine lv_iconst (v := -1) hx hb dX10_count_177 (by decide) ?_
                        obtain rfl := Option.some.inj hf
                        rw [hQ]
                        exact r_iret C hr hk hW rfl rfl dX10_count_178
set_option maxHeartbeats 4000000 in
set_option maxRecDepth 100000 in
theorem c_X8_wrong_1 {l : Launch} {D : va_G} {tc : Nat → ClassId} {ro : Ro} {oa : Ky → Nat} {aa : Nat → Nat} {sh : Sh} {ln : Nat → Nat} {μ : Mm} {res : Int32} (hwf : WfS sh) (hf : f_X8_wrong_1 sh ln μ = some res) : Ct l D tc ro (faB oa aa sh) (feB tc oa aa sh ln) yX8_wrong cX8_wrong 1 (some .int) (rmq 0 0) [.ref (oa (6, 1))] μ (some (.int res)) μ := by
  refine Ct.of (by decide) (Nat.le_of_ble_eq_true rfl) (fun p e s m args below meth c A C hr hk hW ls hl => ?_)
  have hx := C.1.1
  have hb := C.1.2.1
  obtain ⟨Q, hQ⟩ : ∃ Q, Q = MQ below (Ctq D (faB oa aa sh) (feB tc oa aa sh ln) (some (.int res)) μ A) args s 0 0 A := ⟨_, rfl⟩
  rw [← hQ]
  have hl : lv_has ls 1 [(0, .ref (oa (6, 1)))] := hl
  unfold f_X8_wrong_1 at hf
  refine lv_aload_n hx hb dX8_wrong_0 rfl (lv_at hl 0 rfl) ?_
  refine gf_X8_23_1 C hW dX8_wrong_1 ?_
  obtain rfl := Option.some.inj hf
  rw [hQ]
  exact r_iret C hr hk hW rfl rfl dX8_wrong_4
set_option maxHeartbeats 4000000 in
set_option maxRecDepth 100000 in
theorem c_X8_wrongAt_1 {l : Launch} {D : va_G} {tc : Nat → ClassId} {ro : Ro} {oa : Ky → Nat} {aa : Nat → Nat} {sh : Sh} {ln : Nat → Nat} {μ : Mm} {v1 : Int32} {res : Int32 × Mm} (hwf : WfS sh) (hf : f_X8_wrongAt_1 sh ln μ v1 = some res) : Ct l D tc ro (faB oa aa sh) (feB tc oa aa sh ln) yX8_wrongAt cX8_wrongAt 2 (some .boolean) (rmq 0 0) [.ref (oa (6, 1)), .int v1] μ (some (.int res.1)) res.2 := by
  refine Ct.of (by decide) (Nat.le_of_ble_eq_true rfl) (fun p e s m args below meth c A C hr hk hW ls hl => ?_)
  have hx := C.1.1
  have hb := C.1.2.1
  obtain ⟨Q, hQ⟩ : ∃ Q, Q = MQ below (Ctq D (faB oa aa sh) (feB tc oa aa sh ln) (some (.int res.1)) res.2 A) args s 0 0 A := ⟨_, rfl⟩
  rw [← hQ]
  have hl : lv_has ls 2 [(0, .ref (oa (6, 1))), (1, .int v1)] := hl
  unfold f_X8_wrongAt_1 at hf
  refine lv_aload_n hx hb dX8_wrongAt_0 rfl (lv_at hl 0 rfl) ?_
  refine lv_iload_n hx hb dX8_wrongAt_1 rfl (lv_at hl 1 rfl) ?_
  refine pf_X8_23_1 C hW dX8_wrongAt_2 (fun H locs hW => ?_)
  refine lv_iconst (v := 0) hx hb dX8_wrongAt_5 (by decide) ?_
  obtain rfl := Option.some.inj hf
  rw [hQ]
  exact r_zret C hr hk hW (Or.inl rfl) rfl rfl dX8_wrongAt_6
set_option maxHeartbeats 4000000 in
set_option maxRecDepth 100000 in
theorem c_X8_step_1 {l : Launch} {D : va_G} {tc : Nat → ClassId} {ro : Ro} {oa : Ky → Nat} {aa : Nat → Nat} {sh : Sh} {ln : Nat → Nat} {μ : Mm} {res : Mm} (hwf : WfS sh) (hf : f_X8_step_1 sh ln μ = some res) : Ct l D tc ro (faB oa aa sh) (feB tc oa aa sh ln) yX8_step cX8_step 1 none (rmq 0 0) [.ref (oa (6, 1))] μ none res := by
  refine Ct.of (by decide) (Nat.le_of_ble_eq_true rfl) (fun p e s m args below meth c A C hr hk hW ls hl => ?_)
  have hx := C.1.1
  have hb := C.1.2.1
  obtain ⟨Q, hQ⟩ : ∃ Q, Q = MQ below (Ctq D (faB oa aa sh) (feB tc oa aa sh ln) none res A) args s 0 0 A := ⟨_, rfl⟩
  rw [← hQ]
  have hl : lv_has ls 1 [(0, .ref (oa (6, 1)))] := hl
  unfold f_X8_step_1 at hf
  refine lv_aload_n hx hb dX8_step_0 rfl (lv_at hl 0 rfl) ?_
  refine gf_X8_71_1 C hW dX8_step_1 ?_
  refine lv_aload_n hx hb dX8_step_4 rfl (lv_at hl 0 rfl) ?_
  refine gf_X8_51_1 C hW dX8_step_5 ?_
  refine lv_icmp_ge (tgt := 99) hx hb dX8_step_8 (by decide) (fun c1 => ?_) (fun c1 => ?_)
  · have hf := (if_pos c1).symm.trans hf
    refine lv_aload_n hx hb dX8_step_99 rfl (lv_at hl 0 rfl) ?_
    refine lv_iconst (v := 0) hx hb dX8_step_100 (by decide) ?_
    refine pf_X8_27_1 C hW dX8_step_101 (fun H locs hW => ?_)
    refine lv_aload_n hx hb dX8_step_104 rfl (lv_at hl 0 rfl) ?_
    refine lv_aload_n hx hb dX8_step_105 rfl (lv_at hl 0 rfl) ?_
    refine gf_X8_48_1 C hW dX8_step_106 ?_
    refine pf_X8_38_1 C hW dX8_step_109 (fun H locs hW => ?_)
    obtain ⟨μ2, hm2, hf⟩ := bd_of hf
    rw [Option.some.inj hm2] at hW
    obtain rfl := Option.some.inj hf
    rw [hQ]
    exact r_vret C hr hk hW rfl rfl dX8_step_112
  · have hf := (if_neg c1).symm.trans hf
    refine lv_aload_n hx hb dX8_step_11 rfl (lv_at hl 0 rfl) ?_
    refine gf_X8_71_1 C hW dX8_step_12 ?_
    refine lv_aload_n hx hb dX8_step_15 rfl (lv_at hl 0 rfl) ?_
    refine gf_X8_11_1 C hW dX8_step_16 ?_
    refine r_alen (k := ((7, 1) : Ky)) (t := 0) (v := (400 : Int32)) C hW rfl rfl rfl rfl dX8_step_19 ?_
    refine lv_icmp_ge (tgt := 99) hx hb dX8_step_20 (by decide) (fun c3 => ?_) (fun c3 => ?_)
    · have hf := (if_pos c3).symm.trans hf
      refine lv_aload_n hx hb dX8_step_99 rfl (lv_at hl 0 rfl) ?_
      refine lv_iconst (v := 0) hx hb dX8_step_100 (by decide) ?_
      refine pf_X8_27_1 C hW dX8_step_101 (fun H locs hW => ?_)
      refine lv_aload_n hx hb dX8_step_104 rfl (lv_at hl 0 rfl) ?_
      refine lv_aload_n hx hb dX8_step_105 rfl (lv_at hl 0 rfl) ?_
      refine gf_X8_48_1 C hW dX8_step_106 ?_
      refine pf_X8_38_1 C hW dX8_step_109 (fun H locs hW => ?_)
      obtain ⟨μ4, hm4, hf⟩ := bd_of hf
      rw [Option.some.inj hm4] at hW
      obtain rfl := Option.some.inj hf
      rw [hQ]
      exact r_vret C hr hk hW rfl rfl dX8_step_112
    · have hf := (if_neg c3).symm.trans hf
      refine lv_aload_n hx hb dX8_step_23 rfl (lv_at hl 0 rfl) ?_
      refine gf_X8_71_1 C hW dX8_step_24 ?_
      refine lv_aload_n hx hb dX8_step_27 rfl (lv_at hl 0 rfl) ?_
      refine gf_X8_17_1 C hW dX8_step_28 ?_
      refine r_alen (k := ((8, 1) : Ky)) (t := 0) (v := (400 : Int32)) C hW rfl rfl rfl rfl dX8_step_31 ?_
      refine lv_icmp_ge (tgt := 99) hx hb dX8_step_32 (by decide) (fun c5 => ?_) (fun c5 => ?_)
      · have hf := (if_pos c5).symm.trans hf
        refine lv_aload_n hx hb dX8_step_99 rfl (lv_at hl 0 rfl) ?_
        refine lv_iconst (v := 0) hx hb dX8_step_100 (by decide) ?_
        refine pf_X8_27_1 C hW dX8_step_101 (fun H locs hW => ?_)
        refine lv_aload_n hx hb dX8_step_104 rfl (lv_at hl 0 rfl) ?_
        refine lv_aload_n hx hb dX8_step_105 rfl (lv_at hl 0 rfl) ?_
        refine gf_X8_48_1 C hW dX8_step_106 ?_
        refine pf_X8_38_1 C hW dX8_step_109 (fun H locs hW => ?_)
        obtain ⟨μ6, hm6, hf⟩ := bd_of hf
        rw [Option.some.inj hm6] at hW
        obtain rfl := Option.some.inj hf
        rw [hQ]
        exact r_vret C hr hk hW rfl rfl dX8_step_112
      · have hf := (if_neg c5).symm.trans hf
        refine lv_aload_n hx hb dX8_step_35 rfl (lv_at hl 0 rfl) ?_
        refine gf_X8_71_1 C hW dX8_step_36 ?_
        refine lv_aload_n hx hb dX8_step_39 rfl (lv_at hl 0 rfl) ?_
        refine gf_X8_20_1 C hW dX8_step_40 ?_
        refine r_alen (k := ((9, 1) : Ky)) (t := 0) (v := (400 : Int32)) C hW rfl rfl rfl rfl dX8_step_43 ?_
        refine lv_icmp_ge (tgt := 99) hx hb dX8_step_44 (by decide) (fun c7 => ?_) (fun c7 => ?_)
        · have hf := (if_pos c7).symm.trans hf
          refine lv_aload_n hx hb dX8_step_99 rfl (lv_at hl 0 rfl) ?_
          refine lv_iconst (v := 0) hx hb dX8_step_100 (by decide) ?_
          refine pf_X8_27_1 C hW dX8_step_101 (fun H locs hW => ?_)
          refine lv_aload_n hx hb dX8_step_104 rfl (lv_at hl 0 rfl) ?_
          refine lv_aload_n hx hb dX8_step_105 rfl (lv_at hl 0 rfl) ?_
          refine gf_X8_48_1 C hW dX8_step_106 ?_
          refine pf_X8_38_1 C hW dX8_step_109 (fun H locs hW => ?_)
          obtain ⟨μ8, hm8, hf⟩ := bd_of hf
          rw [Option.some.inj hm8] at hW
          obtain rfl := Option.some.inj hf
          rw [hQ]
          exact r_vret C hr hk hW rfl rfl dX8_step_112
        · have hf := (if_neg c7).symm.trans hf
          refine lv_aload_n hx hb dX8_step_47 rfl (lv_at hl 0 rfl) ?_
          refine lv_aload_n hx hb dX8_step_48 rfl (lv_at hl 0 rfl) ?_
          refine gf_X8_11_1 C hW dX8_step_49 ?_
          refine lv_aload_n hx hb dX8_step_52 rfl (lv_at hl 0 rfl) ?_
          refine gf_X8_71_1 C hW dX8_step_53 ?_
          obtain ⟨hi9, hf⟩ := ck_of hf
          refine r_iald (k := ((7, 1) : Ky)) (n := 400) C hW rfl rfl hi9 dX8_step_56 ?_
          refine pf_X8_27_1 C hW dX8_step_57 (fun H locs hW => ?_)
          refine lv_aload_n hx hb dX8_step_60 rfl (lv_at hl 0 rfl) ?_
          refine lv_aload_n hx hb dX8_step_61 rfl (lv_at hl 0 rfl) ?_
          refine gf_X8_17_1 C hW dX8_step_62 ?_
          refine lv_aload_n hx hb dX8_step_65 rfl (lv_at hl 0 rfl) ?_
          refine gf_X8_71_1 C hW dX8_step_66 ?_
          obtain ⟨hi10, hf⟩ := ck_of hf
          refine r_iald (k := ((8, 1) : Ky)) (n := 400) C hW rfl rfl hi10 dX8_step_69 ?_
          refine pf_X8_38_1 C hW dX8_step_70 (fun H locs hW => ?_)
          obtain ⟨μ11, hm11, hf⟩ := bd_of hf
          rw [Option.some.inj hm11] at hW
          refine lv_aload_n hx hb dX8_step_73 rfl (lv_at hl 0 rfl) ?_
          refine lv_aload_n hx hb dX8_step_74 rfl (lv_at hl 0 rfl) ?_
          refine gf_X8_20_1 C hW dX8_step_75 ?_
          refine lv_aload_n hx hb dX8_step_78 rfl (lv_at hl 0 rfl) ?_
          refine gf_X8_71_1 C hW dX8_step_79 ?_
          obtain ⟨hi12, hf⟩ := ck_of hf
          refine r_iald (k := ((9, 1) : Ky)) (n := 400) C hW rfl rfl hi12 dX8_step_82 ?_
          refine pf_X8_144_1 C hW dX8_step_83 (fun H locs hW => ?_)
          refine lv_aload_n hx hb dX8_step_86 rfl (lv_at hl 0 rfl) ?_
          refine lv_dup hx hb dX8_step_87 rfl ?_
          refine gf_X8_71_1 C hW dX8_step_88 ?_
          refine lv_iconst (v := 1) hx hb dX8_step_91 (by decide) ?_
          refine lv_iadd hx hb dX8_step_92 ?_
          refine pf_X8_71_1 C hW dX8_step_93 (fun H locs hW => ?_)
          obtain ⟨μ13, hm13, hf⟩ := bd_of hf
          rw [Option.some.inj hm13] at hW
          refine lv_goto (tgt := 112) hx hb dX8_step_96 (by decide) ?_
          obtain rfl := Option.some.inj hf
          rw [hQ]
          exact r_vret C hr hk hW rfl rfl dX8_step_112
set_option maxHeartbeats 4000000 in
set_option maxRecDepth 100000 in
theorem c_X8_take_1 {l : Launch} {D : va_G} {tc : Nat → ClassId} {ro : Ro} {oa : Ky → Nat} {aa : Nat → Nat} {sh : Sh} {ln : Nat → Nat} {μ : Mm} {v1 : Int32} {res : Int32 × Mm} (hwf : WfS sh) (hf : f_X8_take_1 sh ln μ v1 = some res) : Ct l D tc ro (faB oa aa sh) (feB tc oa aa sh ln) yX8_take cX8_take 2 (some .boolean) (rmq 1 21) [.ref (oa (6, 1)), .int v1] μ (some (.int res.1)) res.2 := by
  refine Ct.of (by decide) (Nat.le_of_ble_eq_true rfl) (fun p e s m args below meth c A C hr hk hW ls hl => ?_)
  have hx := C.1.1
  have hb := C.1.2.1
  obtain ⟨Q, hQ⟩ : ∃ Q, Q = MQ below (Ctq D (faB oa aa sh) (feB tc oa aa sh ln) (some (.int res.1)) res.2 A) args s 0 0 A := ⟨_, rfl⟩
  rw [← hQ]
  have hl : lv_has ls 2 [(0, .ref (oa (6, 1))), (1, .int v1)] := hl
  unfold f_X8_take_1 at hf
  refine lv_aload_n hx hb dX8_take_0 rfl (lv_at hl 0 rfl) ?_
  refine gf_X8_27_1 C hW dX8_take_1 ?_
  refine lv_iload_n hx hb dX8_take_4 rfl (lv_at hl 1 rfl) ?_
  refine lv_icmp_eq (tgt := 17) hx hb dX8_take_5 (by decide) (fun c1 => ?_) (fun c1 => ?_)
  · have hf := (if_pos c1).symm.trans hf
    refine lv_aload_n hx hb dX8_take_17 rfl (lv_at hl 0 rfl) ?_
    obtain ⟨x18, h18, hf⟩ := bd_of hf
    refine r_callVU (k := ((6, 1) : Ky)) C hW hl lk_X8_74_1 (c_X8_step_1 hwf h18) ⟨rfl, rfl⟩ ⟨Nat.le_of_ble_eq_true rfl, Nat.le_of_ble_eq_true rfl⟩ rfl rfl rfl (As := []) (rest := []) rfl rfl (Nat.le_of_ble_eq_true rfl) dX8_take_18 ⟨Nat.zero_le _, Nat.zero_le _⟩ (fun H locs hW => ?_)
    show W p l e (rmq 1 21) s m args below meth c H locs 0 0 Q (F0 m 21 ls [])
    refine lv_iconst (v := 1) hx hb dX8_take_21 (by decide) ?_
    obtain rfl := Option.some.inj hf
    rw [hQ]
    exact r_zret C hr hk hW (Or.inr rfl) rfl rfl dX8_take_22
  · have hf := (if_neg c1).symm.trans hf
    refine lv_aload_n hx hb dX8_take_8 rfl (lv_at hl 0 rfl) ?_
    refine lv_aload_n hx hb dX8_take_9 rfl (lv_at hl 0 rfl) ?_
    refine gf_X8_38_1 C hW dX8_take_10 ?_
    obtain ⟨x13, h13, hf⟩ := bd_of hf
    refine r_callVU (k := ((6, 1) : Ky)) C hW hl lk_X8_41_1 (c_X8_wrongAt_1 hwf h13) ⟨rfl, rfl⟩ ⟨Nat.le_of_ble_eq_true rfl, Nat.le_of_ble_eq_true rfl⟩ rfl rfl rfl (As := [.int (μ (6, 1) 9)]) (rest := []) rfl rfl (Nat.le_of_ble_eq_true rfl) dX8_take_13 ⟨Nat.zero_le _, Nat.zero_le _⟩ (fun H locs hW => ?_)
    show W p l e (rmq 1 21) s m args below meth c H locs 0 0 Q (F0 m 16 ls [.int x13.1])
    obtain ⟨hz2, hf⟩ := cb_of hf
    obtain rfl := Option.some.inj hf
    rw [hQ]
    exact r_zret C hr hk hW hz2 rfl rfl dX8_take_16
set_option maxHeartbeats 4000000 in
set_option maxRecDepth 100000 in
theorem c_X8_takeNumber_1 {l : Launch} {D : va_G} {tc : Nat → ClassId} {ro : Ro} {oa : Ky → Nat} {aa : Nat → Nat} {sh : Sh} {ln : Nat → Nat} {μ : Mm} {v1 v2 : Int32} {res : Int32 × Mm} (hwf : WfS sh) (hf : f_X8_takeNumber_1 sh ln μ v1 v2 = some res) : Ct l D tc ro (faB oa aa sh) (feB tc oa aa sh ln) yX8_takeNumber cX8_takeNumber 3 (some .boolean) (rmq 1 21) [.ref (oa (6, 1)), .int v1, .int v2] μ (some (.int res.1)) res.2 := by
  refine Ct.of (by decide) (Nat.le_of_ble_eq_true rfl) (fun p e s m args below meth c A C hr hk hW ls hl => ?_)
  have hx := C.1.1
  have hb := C.1.2.1
  obtain ⟨Q, hQ⟩ : ∃ Q, Q = MQ below (Ctq D (faB oa aa sh) (feB tc oa aa sh ln) (some (.int res.1)) res.2 A) args s 0 0 A := ⟨_, rfl⟩
  rw [← hQ]
  have hl : lv_has ls 3 [(0, .ref (oa (6, 1))), (1, .int v1), (2, .int v2)] := hl
  unfold f_X8_takeNumber_1 at hf
  refine lv_aload_n hx hb dX8_takeNumber_0 rfl (lv_at hl 0 rfl) ?_
  refine gf_X8_27_1 C hW dX8_takeNumber_1 ?_
  refine lv_iconst (v := 2) hx hb dX8_takeNumber_4 (by decide) ?_
  refine lv_icmp_ne (tgt := 24) hx hb dX8_takeNumber_5 (by decide) (fun c1 => ?_) (fun c1 => ?_)
  · have hf := (if_neg c1).symm.trans hf
    refine lv_aload_n hx hb dX8_takeNumber_24 rfl (lv_at hl 0 rfl) ?_
    refine lv_aload_n hx hb dX8_takeNumber_25 rfl (lv_at hl 0 rfl) ?_
    refine gf_X8_38_1 C hW dX8_takeNumber_26 ?_
    obtain ⟨x29, h29, hf⟩ := bd_of hf
    refine r_callVU (k := ((6, 1) : Ky)) C hW hl lk_X8_41_1 (c_X8_wrongAt_1 hwf h29) ⟨rfl, rfl⟩ ⟨Nat.le_of_ble_eq_true rfl, Nat.le_of_ble_eq_true rfl⟩ rfl rfl rfl (As := [.int (μ (6, 1) 9)]) (rest := []) rfl rfl (Nat.le_of_ble_eq_true rfl) dX8_takeNumber_29 ⟨Nat.zero_le _, Nat.zero_le _⟩ (fun H locs hW => ?_)
    show W p l e (rmq 1 21) s m args below meth c H locs 0 0 Q (F0 m 32 ls [.int x29.1])
    obtain ⟨hz2, hf⟩ := cb_of hf
    obtain rfl := Option.some.inj hf
    rw [hQ]
    exact r_zret C hr hk hW hz2 rfl rfl dX8_takeNumber_32
  · have hf := (if_pos c1).symm.trans hf
    refine lv_aload_n hx hb dX8_takeNumber_8 rfl (lv_at hl 0 rfl) ?_
    refine gf_X8_144_1 C hW dX8_takeNumber_9 ?_
    refine lv_iload_n hx hb dX8_takeNumber_12 rfl (lv_at hl 1 rfl) ?_
    refine lv_icmp_lt (tgt := 24) hx hb dX8_takeNumber_13 (by decide) (fun c3 => ?_) (fun c3 => ?_)
    · have hf := (if_pos c3).symm.trans hf
      refine lv_aload_n hx hb dX8_takeNumber_24 rfl (lv_at hl 0 rfl) ?_
      refine lv_aload_n hx hb dX8_takeNumber_25 rfl (lv_at hl 0 rfl) ?_
      refine gf_X8_38_1 C hW dX8_takeNumber_26 ?_
      obtain ⟨x29, h29, hf⟩ := bd_of hf
      refine r_callVU (k := ((6, 1) : Ky)) C hW hl lk_X8_41_1 (c_X8_wrongAt_1 hwf h29) ⟨rfl, rfl⟩ ⟨Nat.le_of_ble_eq_true rfl, Nat.le_of_ble_eq_true rfl⟩ rfl rfl rfl (As := [.int (μ (6, 1) 9)]) (rest := []) rfl rfl (Nat.le_of_ble_eq_true rfl) dX8_takeNumber_29 ⟨Nat.zero_le _, Nat.zero_le _⟩ (fun H locs hW => ?_)
      show W p l e (rmq 1 21) s m args below meth c H locs 0 0 Q (F0 m 32 ls [.int x29.1])
      obtain ⟨hz4, hf⟩ := cb_of hf
      obtain rfl := Option.some.inj hf
      rw [hQ]
      exact r_zret C hr hk hW hz4 rfl rfl dX8_takeNumber_32
    · have hf := (if_neg c3).symm.trans hf
      refine lv_aload_n hx hb dX8_takeNumber_16 rfl (lv_at hl 0 rfl) ?_
      refine gf_X8_144_1 C hW dX8_takeNumber_17 ?_
      refine lv_iload_n hx hb dX8_takeNumber_20 rfl (lv_at hl 2 rfl) ?_
      refine lv_icmp_le (tgt := 33) hx hb dX8_takeNumber_21 (by decide) (fun c5 => ?_) (fun c5 => ?_)
      · have hf := (if_pos c5).symm.trans hf
        refine lv_aload_n hx hb dX8_takeNumber_33 rfl (lv_at hl 0 rfl) ?_
        obtain ⟨x34, h34, hf⟩ := bd_of hf
        refine r_callVU (k := ((6, 1) : Ky)) C hW hl lk_X8_74_1 (c_X8_step_1 hwf h34) ⟨rfl, rfl⟩ ⟨Nat.le_of_ble_eq_true rfl, Nat.le_of_ble_eq_true rfl⟩ rfl rfl rfl (As := []) (rest := []) rfl rfl (Nat.le_of_ble_eq_true rfl) dX8_takeNumber_34 ⟨Nat.zero_le _, Nat.zero_le _⟩ (fun H locs hW => ?_)
        show W p l e (rmq 1 21) s m args below meth c H locs 0 0 Q (F0 m 37 ls [])
        refine lv_iconst (v := 1) hx hb dX8_takeNumber_37 (by decide) ?_
        obtain rfl := Option.some.inj hf
        rw [hQ]
        exact r_zret C hr hk hW (Or.inr rfl) rfl rfl dX8_takeNumber_38
      · have hf := (if_neg c5).symm.trans hf
        refine lv_aload_n hx hb dX8_takeNumber_24 rfl (lv_at hl 0 rfl) ?_
        refine lv_aload_n hx hb dX8_takeNumber_25 rfl (lv_at hl 0 rfl) ?_
        refine gf_X8_38_1 C hW dX8_takeNumber_26 ?_
        obtain ⟨x29, h29, hf⟩ := bd_of hf
        refine r_callVU (k := ((6, 1) : Ky)) C hW hl lk_X8_41_1 (c_X8_wrongAt_1 hwf h29) ⟨rfl, rfl⟩ ⟨Nat.le_of_ble_eq_true rfl, Nat.le_of_ble_eq_true rfl⟩ rfl rfl rfl (As := [.int (μ (6, 1) 9)]) (rest := []) rfl rfl (Nat.le_of_ble_eq_true rfl) dX8_takeNumber_29 ⟨Nat.zero_le _, Nat.zero_le _⟩ (fun H locs hW => ?_)
        show W p l e (rmq 1 21) s m args below meth c H locs 0 0 Q (F0 m 32 ls [.int x29.1])
        obtain ⟨hz6, hf⟩ := cb_of hf
        obtain rfl := Option.some.inj hf
        rw [hQ]
        exact r_zret C hr hk hW hz6 rfl rfl dX8_takeNumber_32
set_option maxHeartbeats 4000000 in
set_option maxRecDepth 100000 in
theorem c_X3_add {l : Launch} {D : va_G} {tc : Nat → ClassId} {ro : Ro} {oa : Ky → Nat} {aa : Nat → Nat} {sh : Sh} {ln : Nat → Nat} {μ : Mm} {v1 : Int32} {res : Int32 × Mm} (hwf : WfS sh) (hf : f_X3_add sh ln μ v1 = some res) : Ct l D tc ro (faB oa aa sh) (feB tc oa aa sh ln) yX3_add cX3_add 2 (some .boolean) (rmq 0 0) [.ref (oa (6, 1)), .int v1] μ (some (.int res.1)) res.2 := by
  refine Ct.of (by decide) (Nat.le_of_ble_eq_true rfl) (fun p e s m args below meth c A C hr hk hW ls hl => ?_)
  have hx := C.1.1
  have hb := C.1.2.1
  obtain ⟨Q, hQ⟩ : ∃ Q, Q = MQ below (Ctq D (faB oa aa sh) (feB tc oa aa sh ln) (some (.int res.1)) res.2 A) args s 0 0 A := ⟨_, rfl⟩
  rw [← hQ]
  have hl : lv_has ls 2 [(0, .ref (oa (6, 1))), (1, .int v1)] := hl
  unfold f_X3_add at hf
  refine lv_aload_n hx hb dX3_add_0 rfl (lv_at hl 0 rfl) ?_
  refine gf_X3_15 C hW dX3_add_1 ?_
  refine lv_aload_n hx hb dX3_add_4 rfl (lv_at hl 0 rfl) ?_
  refine gf_X3_11 C hW dX3_add_5 ?_
  refine r_alen (k := ((10, 0) : Ky)) (t := 0) (v := (512 : Int32)) C hW rfl rfl rfl rfl dX3_add_8 ?_
  refine lv_icmp_ge (tgt := 32) hx hb dX3_add_9 (by decide) (fun c1 => ?_) (fun c1 => ?_)
  · have hf := (if_pos c1).symm.trans hf
    refine lv_iconst (v := 1) hx hb dX3_add_32 (by decide) ?_
    obtain rfl := Option.some.inj hf
    rw [hQ]
    exact r_zret C hr hk hW (Or.inr rfl) rfl rfl dX3_add_33
  · have hf := (if_neg c1).symm.trans hf
    refine lv_aload_n hx hb dX3_add_12 rfl (lv_at hl 0 rfl) ?_
    refine gf_X3_11 C hW dX3_add_13 ?_
    refine lv_aload_n hx hb dX3_add_16 rfl (lv_at hl 0 rfl) ?_
    refine gf_X3_15 C hW dX3_add_17 ?_
    refine lv_iload_n hx hb dX3_add_20 rfl (lv_at hl 1 rfl) ?_
    obtain ⟨hi2, hf⟩ := ck_of hf
    refine r_iast (k := ((10, 0) : Ky)) (n := 512) C hW rfl (fun _ => rfl) hi2 dX3_add_21 (fun H locs hW => ?_)
    refine lv_aload_n hx hb dX3_add_22 rfl (lv_at hl 0 rfl) ?_
    refine lv_dup hx hb dX3_add_23 rfl ?_
    refine gf_X3_15 C hW dX3_add_24 ?_
    refine lv_iconst (v := 1) hx hb dX3_add_27 (by decide) ?_
    refine lv_iadd hx hb dX3_add_28 ?_
    refine pf_X3_15 C hW dX3_add_29 (fun H locs hW => ?_)
    obtain ⟨μ3, hm3, hf⟩ := bd_of hf
    rw [Option.some.inj hm3] at hW
    refine lv_iconst (v := 1) hx hb dX3_add_32 (by decide) ?_
    obtain rfl := Option.some.inj hf
    rw [hQ]
    exact r_zret C hr hk hW (Or.inr rfl) rfl rfl dX3_add_33
set_option maxHeartbeats 4000000 in
set_option maxRecDepth 100000 in
theorem c_X3_partNext {l : Launch} {D : va_G} {tc : Nat → ClassId} {ro : Ro} {oa : Ky → Nat} {aa : Nat → Nat} {sh : Sh} {ln : Nat → Nat} {μ : Mm} {res : Int32} (hwf : WfS sh) (hf : f_X3_partNext sh ln μ = some res) : Ct l D tc ro (faB oa aa sh) (feB tc oa aa sh ln) yX3_partNext cX3_partNext 1 (some .int) (rmq 0 0) [.ref (oa (6, 1))] μ (some (.int res)) μ := by
  refine Ct.of (by decide) (Nat.le_of_ble_eq_true rfl) (fun p e s m args below meth c A C hr hk hW ls hl => ?_)
  have hx := C.1.1
  have hb := C.1.2.1
  obtain ⟨Q, hQ⟩ : ∃ Q, Q = MQ below (Ctq D (faB oa aa sh) (feB tc oa aa sh ln) (some (.int res)) μ A) args s 0 0 A := ⟨_, rfl⟩
  rw [← hQ]
  have hl : lv_has ls 1 [(0, .ref (oa (6, 1)))] := hl
  unfold f_X3_partNext at hf
  refine lv_aload_n hx hb dX3_partNext_0 rfl (lv_at hl 0 rfl) ?_
  refine gf_X3_50 C hW dX3_partNext_1 ?_
  by_cases c2 : (μ (6, 1) 8) = (2 : Int32)
  · have hf := (if_pos c2).symm.trans hf
    refine lv_lookup (off := 52) (tgt := 56) hx hb dX3_partNext_4 (by decide) (by rw [c2]; rfl) (by decide) ?_
    refine lv_aload_n hx hb dX3_partNext_56 rfl (lv_at hl 0 rfl) ?_
    refine gf_X3_43 C hW dX3_partNext_57 ?_
    obtain rfl := Option.some.inj hf
    rw [hQ]
    exact r_iret C hr hk hW rfl rfl dX3_partNext_60
  · have hf := (if_neg c2).symm.trans hf
    have n2 := lv_neT c2 (a := 2) (by decide)
    by_cases c3 : (μ (6, 1) 8) = (316 : Int32)
    · have hf := (if_pos c3).symm.trans hf
      refine lv_lookup (off := 57) (tgt := 61) hx hb dX3_partNext_4 (by decide) (by rw [c3]; rfl) (by decide) ?_
      refine lv_sipush (v := 1000) hx hb dX3_partNext_61 (by decide) ?_
      obtain rfl := Option.some.inj hf
      rw [hQ]
      exact r_iret C hr hk hW rfl rfl dX3_partNext_64
    · have hf := (if_neg c3).symm.trans hf
      have n3 := lv_neT c3 (a := 316) (by decide)
      by_cases c4 : (μ (6, 1) 8) = (317 : Int32)
      · have hf := (if_pos c4).symm.trans hf
        refine lv_lookup (off := 61) (tgt := 65) hx hb dX3_partNext_4 (by decide) (by rw [c4]; rfl) (by decide) ?_
        refine lv_sipush (v := 1001) hx hb dX3_partNext_65 (by decide) ?_
        obtain rfl := Option.some.inj hf
        rw [hQ]
        exact r_iret C hr hk hW rfl rfl dX3_partNext_68
      · have hf := (if_neg c4).symm.trans hf
        have n4 := lv_neT c4 (a := 317) (by decide)
        by_cases c5 : (μ (6, 1) 8) = (318 : Int32)
        · have hf := (if_pos c5).symm.trans hf
          refine lv_lookup (off := 65) (tgt := 69) hx hb dX3_partNext_4 (by decide) (by rw [c5]; rfl) (by decide) ?_
          refine lv_sipush (v := 1002) hx hb dX3_partNext_69 (by decide) ?_
          obtain rfl := Option.some.inj hf
          rw [hQ]
          exact r_iret C hr hk hW rfl rfl dX3_partNext_72
        · have hf := (if_neg c5).symm.trans hf
          have n5 := lv_neT c5 (a := 318) (by decide)
          by_cases c6 : (μ (6, 1) 8) = (319 : Int32)
          · have hf := (if_pos c6).symm.trans hf
            refine lv_lookup (off := 69) (tgt := 73) hx hb dX3_partNext_4 (by decide) (by rw [c6]; rfl) (by decide) ?_
            refine lv_sipush (v := 1003) hx hb dX3_partNext_73 (by decide) ?_
            obtain rfl := Option.some.inj hf
            rw [hQ]
            exact r_iret C hr hk hW rfl rfl dX3_partNext_76
          · have hf := (if_neg c6).symm.trans hf
            have n6 := lv_neT c6 (a := 319) (by decide)
            refine lv_lookup (off := 73) (tgt := 77) hx hb dX3_partNext_4 (by decide) (by rw [lv_osw c2 (by decide)]; rw [lv_osw c3 (by decide)]; rw [lv_osw c4 (by decide)]; rw [lv_osw c5 (by decide)]; rw [lv_osw c6 (by decide)]; rfl) (by decide) ?_
            refine lv_iconst (v := -1) hx hb dX3_partNext_77 (by decide) ?_
            obtain rfl := Option.some.inj hf
            rw [hQ]
            exact r_iret C hr hk hW rfl rfl dX3_partNext_78
set_option maxHeartbeats 4000000 in
set_option maxRecDepth 100000 in
theorem c_X3_readSum {l : Launch} {D : va_G} {tc : Nat → ClassId} {ro : Ro} {oa : Ky → Nat} {aa : Nat → Nat} {sh : Sh} {ln : Nat → Nat} {μ : Mm} {res : Int32 × Mm} (hwf : WfS sh) (hf : f_X3_readSum sh ln μ = some res) : Ct l D tc ro (faB oa aa sh) (feB tc oa aa sh ln) yX3_readSum cX3_readSum 3 (some .boolean) (rmq 1 21) [.ref (oa (6, 1))] μ (some (.int res.1)) res.2 := by
  refine Ct.of (by decide) (Nat.le_of_ble_eq_true rfl) (fun p e s m args below meth c A C hr hk hW ls hl => ?_)
  have hx := C.1.1
  have hb := C.1.2.1
  obtain ⟨Q, hQ⟩ : ∃ Q, Q = MQ below (Ctq D (faB oa aa sh) (feB tc oa aa sh ln) (some (.int res.1)) res.2 A) args s 0 0 A := ⟨_, rfl⟩
  rw [← hQ]
  have hl : lv_has ls 3 [(0, .ref (oa (6, 1)))] := hl
  unfold f_X3_readSum at hf
  refine lv_iconst (v := 0) hx hb dX3_readSum_0 (by decide) ?_
  refine lv_istore_n (lv' := [(1, .int (0 : Int32)), (0, .ref (oa (6, 1)))]) hx hb dX3_readSum_1 rfl hl (by decide) rfl (fun ls hl => ?_)
  have L2 : ∀ (μ : Mm) (v1 : Int32) (H : Heap) (locs : List Loc) (ls : Array Slot), Wh (fun z : Mm × Int32 => f_X3_readSum_L2 sh ln z.1 z.2) (μ, v1) = some res → Wd D (faB oa aa sh) (feB tc oa aa sh ln) A s.heap μ H locs → lv_has ls 3 [(0, .ref (oa (6, 1))), (1, .int v1)] → W p l e (rmq 1 21) s m args below meth c H locs 0 0 Q (F0 m 2 ls []) := by
    intro μ v1 H locs ls hf hW hl
    refine Wh_rule hf (fun z : Mm × Int32 => ∀ (H : Heap) (locs : List Loc) (ls : Array Slot), Wd D (faB oa aa sh) (feB tc oa aa sh ln) A s.heap z.1 H locs → lv_has ls 3 [(0, .ref (oa (6, 1))), (1, .int z.2)] → W p l e (rmq 1 21) s m args below meth c H locs 0 0 Q (F0 m 2 ls [])) (fun z o1 hf Kl1 Kr1 => ?_) _ _ _ hW hl
    obtain ⟨μ, v1⟩ := z
    intro H locs ls hW hl
    have hf : f_X3_readSum_L2 sh ln μ v1 = some o1 := hf
    unfold f_X3_readSum_L2 at hf
    have hW : Wd D (faB oa aa sh) (feB tc oa aa sh ln) A s.heap μ H locs := hW
    have hl : lv_has ls 3 [(0, .ref (oa (6, 1))), (1, .int v1)] := hl
    refine lv_iload_n hx hb dX3_readSum_2 rfl (lv_at hl 1 rfl) ?_
    refine lv_sipush (v := 400) hx hb dX3_readSum_3 (by decide) ?_
    refine lv_icmp_ge (tgt := 71) hx hb dX3_readSum_6 (by decide) (fun c1 => ?_) (fun c1 => ?_)
    · have hf := (if_pos c1).symm.trans hf
      obtain ⟨x9003, hf, hx9003⟩ := map_of hf
      have e9003 := (Kr1 _ hx9003.symm).symm
      subst e9003
      refine lv_aload_n hx hb dX3_readSum_71 rfl (lv_at hl 0 rfl) ?_
      refine lv_aload_n hx hb dX3_readSum_72 rfl (lv_at hl 0 rfl) ?_
      refine gf_X3_70 C hW dX3_readSum_73 ?_
      obtain ⟨x76, h76, hf⟩ := bd_of hf
      refine r_callVU (k := ((6, 1) : Ky)) C hW hl lk_X3_73 (c_X8_wrongAt_1 hwf h76) ⟨rfl, rfl⟩ ⟨Nat.le_of_ble_eq_true rfl, Nat.le_of_ble_eq_true rfl⟩ rfl rfl rfl (As := [.int (μ (6, 1) 9)]) (rest := []) rfl rfl (Nat.le_of_ble_eq_true rfl) dX3_readSum_76 ⟨Nat.zero_le _, Nat.zero_le _⟩ (fun H locs hW => ?_)
      show W p l e (rmq 1 21) s m args below meth c H locs 0 0 Q (F0 m 79 ls [.int x76.1])
      obtain ⟨hz2, hf⟩ := cb_of hf
      obtain rfl := Option.some.inj hf
      rw [hQ]
      exact r_zret C hr hk hW hz2 rfl rfl dX3_readSum_79
    · have hf := (if_neg c1).symm.trans hf
      refine lv_aload_n hx hb dX3_readSum_9 rfl (lv_at hl 0 rfl) ?_
      obtain ⟨x10, h10, hf⟩ := bd_of hf
      refine r_callV (k := ((6, 1) : Ky)) C hW hl lk_X3_80 (c_X3_partNext hwf h10) ⟨rfl, rfl⟩ ⟨Nat.le_of_ble_eq_true rfl, Nat.le_of_ble_eq_true rfl⟩ rfl rfl rfl (As := []) (rest := []) rfl rfl (Nat.le_of_ble_eq_true rfl) dX3_readSum_10 ⟨Nat.zero_le _, Nat.zero_le _⟩ (fun H locs hW => ?_)
      show W p l e (rmq 1 21) s m args below meth c H locs 0 0 Q (F0 m 13 ls [.int x10])
      refine lv_istore_n (lv' := [(2, .int x10), (0, .ref (oa (6, 1))), (1, .int v1)]) hx hb dX3_readSum_13 rfl hl (by decide) rfl (fun ls hl => ?_)
      refine lv_iload_n hx hb dX3_readSum_14 rfl (lv_at hl 0 rfl) ?_
      refine lv_iconst (v := -1) hx hb dX3_readSum_15 (by decide) ?_
      refine lv_icmp_ne (tgt := 28) hx hb dX3_readSum_16 (by decide) (fun c4 => ?_) (fun c4 => ?_)
      · have hf := (if_neg c4).symm.trans hf
        refine lv_aload_n hx hb dX3_readSum_28 rfl (lv_at hl 1 rfl) ?_
        refine lv_iload_n hx hb dX3_readSum_29 rfl (lv_at hl 0 rfl) ?_
        obtain ⟨x30, h30, hf⟩ := bd_of hf
        refine r_callV (k := ((6, 1) : Ky)) C hW hl lk_X3_59 (c_X3_add hwf h30) ⟨rfl, rfl⟩ ⟨Nat.le_of_ble_eq_true rfl, Nat.le_of_ble_eq_true rfl⟩ rfl rfl rfl (As := [.int x10]) (rest := []) rfl rfl (Nat.le_of_ble_eq_true rfl) dX3_readSum_30 ⟨Nat.zero_le _, Nat.zero_le _⟩ (fun H locs hW => ?_)
        show W p l e (rmq 1 21) s m args below meth c H locs 0 0 Q (F0 m 33 ls [.int x30.1])
        refine lv_pop hx hb dX3_readSum_33 rfl ?_
        refine lv_aload_n hx hb dX3_readSum_34 rfl (lv_at hl 1 rfl) ?_
        obtain ⟨x35, h35, hf⟩ := bd_of hf
        refine r_callVU (k := ((6, 1) : Ky)) C hW hl lk_X3_53 (c_X8_step_1 hwf h35) ⟨rfl, rfl⟩ ⟨Nat.le_of_ble_eq_true rfl, Nat.le_of_ble_eq_true rfl⟩ rfl rfl rfl (As := []) (rest := []) rfl rfl (Nat.le_of_ble_eq_true rfl) dX3_readSum_35 ⟨Nat.zero_le _, Nat.zero_le _⟩ (fun H locs hW => ?_)
        show W p l e (rmq 1 21) s m args below meth c H locs 0 0 Q (F0 m 38 ls [])
        refine lv_iload_n hx hb dX3_readSum_38 rfl (lv_at hl 2 rfl) ?_
        refine lv_if_le (tgt := 50) hx hb dX3_readSum_39 (by decide) (fun c5 => ?_) (fun c5 => ?_)
        · have hf := (if_pos c5).symm.trans hf
          refine lv_aload_n hx hb dX3_readSum_50 rfl (lv_at hl 1 rfl) ?_
          refine gf_X3_50 C hW dX3_readSum_51 ?_
          refine lv_bipush (v := 43) hx hb dX3_readSum_54 (by decide) ?_
          refine lv_icmp_eq (tgt := 61) hx hb dX3_readSum_56 (by decide) (fun c6 => ?_) (fun c6 => ?_)
          · have hf := (if_pos c6).symm.trans hf
            refine lv_aload_n hx hb dX3_readSum_61 rfl (lv_at hl 1 rfl) ?_
            obtain ⟨x62, h62, hf⟩ := bd_of hf
            refine r_callVU (k := ((6, 1) : Ky)) C hW hl lk_X3_53 (c_X8_step_1 hwf h62) ⟨rfl, rfl⟩ ⟨Nat.le_of_ble_eq_true rfl, Nat.le_of_ble_eq_true rfl⟩ rfl rfl rfl (As := []) (rest := []) rfl rfl (Nat.le_of_ble_eq_true rfl) dX3_readSum_62 ⟨Nat.zero_le _, Nat.zero_le _⟩ (fun H locs hW => ?_)
            show W p l e (rmq 1 21) s m args below meth c H locs 0 0 Q (F0 m 65 ls [])
            refine lv_iinc (v := (v1 + (1 : Int32))) (lv' := [(1, .int (v1 + (1 : Int32))), (2, .int x10), (0, .ref (oa (6, 1)))]) hx hb dX3_readSum_65 hl (k := 2) rfl rfl (by decide) rfl (fun ls hl => ?_)
            refine lv_goto (tgt := 2) hx hb dX3_readSum_68 (by decide) ?_
            obtain rfl := Option.some.inj hf
            exact Kl1 _ rfl _ _ _ hW (lv_sub hl [2, 0] rfl)
          · have hf := (if_neg c6).symm.trans hf
            obtain ⟨x9007, hf, hx9007⟩ := map_of hf
            have e9007 := (Kr1 _ hx9007.symm).symm
            subst e9007
            refine lv_iconst (v := 1) hx hb dX3_readSum_59 (by decide) ?_
            obtain rfl := Option.some.inj hf
            rw [hQ]
            exact r_zret C hr hk hW (Or.inr rfl) rfl rfl dX3_readSum_60
        · have hf := (if_neg c5).symm.trans hf
          refine lv_aload_n hx hb dX3_readSum_42 rfl (lv_at hl 1 rfl) ?_
          refine lv_sipush (v := 2000) hx hb dX3_readSum_43 (by decide) ?_
          obtain ⟨x46, h46, hf⟩ := bd_of hf
          refine r_callV (k := ((6, 1) : Ky)) C hW hl lk_X3_59 (c_X3_add hwf h46) ⟨rfl, rfl⟩ ⟨Nat.le_of_ble_eq_true rfl, Nat.le_of_ble_eq_true rfl⟩ rfl rfl rfl (As := [.int (2000 : Int32)]) (rest := []) rfl rfl (Nat.le_of_ble_eq_true rfl) dX3_readSum_46 ⟨Nat.zero_le _, Nat.zero_le _⟩ (fun H locs hW => ?_)
          show W p l e (rmq 1 21) s m args below meth c H locs 0 0 Q (F0 m 49 ls [.int x46.1])
          refine lv_pop hx hb dX3_readSum_49 rfl ?_
          refine lv_aload_n hx hb dX3_readSum_50 rfl (lv_at hl 1 rfl) ?_
          refine gf_X3_50 C hW dX3_readSum_51 ?_
          refine lv_bipush (v := 43) hx hb dX3_readSum_54 (by decide) ?_
          refine lv_icmp_eq (tgt := 61) hx hb dX3_readSum_56 (by decide) (fun c8 => ?_) (fun c8 => ?_)
          · have hf := (if_pos c8).symm.trans hf
            refine lv_aload_n hx hb dX3_readSum_61 rfl (lv_at hl 1 rfl) ?_
            obtain ⟨x62, h62, hf⟩ := bd_of hf
            refine r_callVU (k := ((6, 1) : Ky)) C hW hl lk_X3_53 (c_X8_step_1 hwf h62) ⟨rfl, rfl⟩ ⟨Nat.le_of_ble_eq_true rfl, Nat.le_of_ble_eq_true rfl⟩ rfl rfl rfl (As := []) (rest := []) rfl rfl (Nat.le_of_ble_eq_true rfl) dX3_readSum_62 ⟨Nat.zero_le _, Nat.zero_le _⟩ (fun H locs hW => ?_)
            show W p l e (rmq 1 21) s m args below meth c H locs 0 0 Q (F0 m 65 ls [])
            refine lv_iinc (v := (v1 + (1 : Int32))) (lv' := [(1, .int (v1 + (1 : Int32))), (2, .int x10), (0, .ref (oa (6, 1)))]) hx hb dX3_readSum_65 hl (k := 2) rfl rfl (by decide) rfl (fun ls hl => ?_)
            refine lv_goto (tgt := 2) hx hb dX3_readSum_68 (by decide) ?_
            obtain rfl := Option.some.inj hf
            exact Kl1 _ rfl _ _ _ hW (lv_sub hl [2, 0] rfl)
          · have hf := (if_neg c8).symm.trans hf
            obtain ⟨x9009, hf, hx9009⟩ := map_of hf
            have e9009 := (Kr1 _ hx9009.symm).symm
            subst e9009
            refine lv_iconst (v := 1) hx hb dX3_readSum_59 (by decide) ?_
            obtain rfl := Option.some.inj hf
            rw [hQ]
            exact r_zret C hr hk hW (Or.inr rfl) rfl rfl dX3_readSum_60
      · have hf := (if_pos c4).symm.trans hf
        obtain ⟨x9011, hf, hx9011⟩ := map_of hf
        have e9011 := (Kr1 _ hx9011.symm).symm
        subst e9011
        refine lv_aload_n hx hb dX3_readSum_19 rfl (lv_at hl 1 rfl) ?_
        refine lv_aload_n hx hb dX3_readSum_20 rfl (lv_at hl 1 rfl) ?_
        refine gf_X3_70 C hW dX3_readSum_21 ?_
        obtain ⟨x24, h24, hf⟩ := bd_of hf
        refine r_callVU (k := ((6, 1) : Ky)) C hW hl lk_X3_73 (c_X8_wrongAt_1 hwf h24) ⟨rfl, rfl⟩ ⟨Nat.le_of_ble_eq_true rfl, Nat.le_of_ble_eq_true rfl⟩ rfl rfl rfl (As := [.int (μ (6, 1) 9)]) (rest := []) rfl rfl (Nat.le_of_ble_eq_true rfl) dX3_readSum_24 ⟨Nat.zero_le _, Nat.zero_le _⟩ (fun H locs hW => ?_)
        show W p l e (rmq 1 21) s m args below meth c H locs 0 0 Q (F0 m 27 ls [.int x24.1])
        obtain ⟨hz10, hf⟩ := cb_of hf
        obtain rfl := Option.some.inj hf
        rw [hQ]
        exact r_zret C hr hk hW hz10 rfl rfl dX3_readSum_27
  exact L2 μ (0 : Int32) _ _ _ hf hW (lv_sub hl [1, 0] rfl)
set_option maxHeartbeats 4000000 in
set_option maxRecDepth 100000 in
theorem c_X3_readAtom {l : Launch} {D : va_G} {tc : Nat → ClassId} {ro : Ro} {oa : Ky → Nat} {aa : Nat → Nat} {sh : Sh} {ln : Nat → Nat} {XF XN : Nat} (hAN : 10 ≤ XF ∧ 400 ≤ XN) {fC fA : Mm → Int32 → Option (Int32 × Mm)} (hfC : ∀ {μ : Mm} {v : Int32} {res : Int32 × Mm}, fC μ v = some res → Ct l D tc ro (faB oa aa sh) (feB tc oa aa sh ln) yX3_readAny cX3_readAny 3 (some .boolean) (rmq (XF + 2) (XN + 44)) [.ref (oa (6, 1)), .int v] μ (some (.int res.1)) res.2) (hfA : ∀ {μ : Mm} {v : Int32} {res : Int32 × Mm}, fA μ v = some res → Ct l D tc ro (faB oa aa sh) (feB tc oa aa sh ln) yX3_readAtom cX3_readAtom 3 (some .boolean) (rmq XF XN) [.ref (oa (6, 1)), .int v] μ (some (.int res.1)) res.2) {μ : Mm} {v1 : Int32} {res : Int32 × Mm} (hwf : WfS sh) (hf : f_X3_readAtom sh ln fC fA μ v1 = some res) : Ct l D tc ro (faB oa aa sh) (feB tc oa aa sh ln) yX3_readAtom cX3_readAtom 3 (some .boolean) (rmq (XF + 3) (XN + 66)) [.ref (oa (6, 1)), .int v1] μ (some (.int res.1)) res.2 := by
  refine Ct.of (by decide) (Nat.le_of_ble_eq_true rfl) (fun p e s m args below meth c A C hr hk hW ls hl => ?_)
  have hx := C.1.1
  have hb := C.1.2.1
  obtain ⟨Q, hQ⟩ : ∃ Q, Q = MQ below (Ctq D (faB oa aa sh) (feB tc oa aa sh ln) (some (.int res.1)) res.2 A) args s 0 0 A := ⟨_, rfl⟩
  rw [← hQ]
  have hl : lv_has ls 3 [(0, .ref (oa (6, 1))), (1, .int v1)] := hl
  unfold f_X3_readAtom at hf
  have J215 : ∀ (μ : Mm) (s0 : Int32) (H : Heap) (locs : List Loc) (ls : Array Slot), f_X3_readAtom_J215 sh ln fC fA μ s0 = some res → Wd D (faB oa aa sh) (feB tc oa aa sh ln) A s.heap μ H locs → lv_has ls 3 [(0, .ref (oa (6, 1)))] → W p l e (rmq (XF + 3) (XN + 66)) s m args below meth c H locs 0 0 Q (F0 m 215 ls [.int s0]) := by
    intro μ s0 H locs ls hf hW hl
    unfold f_X3_readAtom_J215 at hf
    refine lv_istore_n (lv' := [(2, .int s0), (0, .ref (oa (6, 1)))]) hx hb dX3_readAtom_215 rfl hl (by decide) rfl (fun ls hl => ?_)
    refine lv_aload_n hx hb dX3_readAtom_216 rfl (lv_at hl 1 rfl) ?_
    obtain ⟨x217, h217, hf⟩ := bd_of hf
    refine r_callVU (k := ((6, 1) : Ky)) C hW hl lk_X3_53 (c_X8_step_1 hwf h217) ⟨rfl, rfl⟩ ⟨by simp only [rmq]; omega, by simp only [rmq]; omega⟩ rfl rfl rfl (As := []) (rest := []) rfl rfl (Nat.le_of_ble_eq_true rfl) dX3_readAtom_217 ⟨Nat.zero_le _, Nat.zero_le _⟩ (fun H locs hW => ?_)
    show W p l e (rmq (XF + 3) (XN + 66)) s m args below meth c H locs 0 0 Q (F0 m 220 ls [])
    refine lv_aload_n hx hb dX3_readAtom_220 rfl (lv_at hl 1 rfl) ?_
    obtain ⟨x221, h221, hf⟩ := bd_of hf
    refine r_callV (k := ((6, 1) : Ky)) C hW hl lk_X3_76 (c_X3_readSum hwf h221) ⟨rfl, rfl⟩ ⟨by simp only [rmq]; omega, by simp only [rmq]; omega⟩ rfl rfl rfl (As := []) (rest := []) rfl rfl (Nat.le_of_ble_eq_true rfl) dX3_readAtom_221 ⟨Nat.zero_le _, Nat.zero_le _⟩ (fun H locs hW => ?_)
    show W p l e (rmq (XF + 3) (XN + 66)) s m args below meth c H locs 0 0 Q (F0 m 224 ls [.int x221.1])
    refine lv_if_eq (tgt := 239) hx hb dX3_readAtom_224 (by decide) (fun c1 => ?_) (fun c1 => ?_)
    · have hf := (if_pos c1).symm.trans hf
      refine lv_iconst (v := 0) hx hb dX3_readAtom_239 (by decide) ?_
      obtain rfl := Option.some.inj hf
      rw [hQ]
      exact r_zret C hr hk hW (Or.inl rfl) rfl rfl dX3_readAtom_240
    · have hf := (if_neg c1).symm.trans hf
      refine lv_aload_n hx hb dX3_readAtom_227 rfl (lv_at hl 1 rfl) ?_
      refine lv_iload_n hx hb dX3_readAtom_228 rfl (lv_at hl 0 rfl) ?_
      obtain ⟨x229, h229, hf⟩ := bd_of hf
      refine r_callV (k := ((6, 1) : Ky)) C hW hl lk_X3_59 (c_X3_add hwf h229) ⟨rfl, rfl⟩ ⟨by simp only [rmq]; omega, by simp only [rmq]; omega⟩ rfl rfl rfl (As := [.int s0]) (rest := []) rfl rfl (Nat.le_of_ble_eq_true rfl) dX3_readAtom_229 ⟨Nat.zero_le _, Nat.zero_le _⟩ (fun H locs hW => ?_)
      show W p l e (rmq (XF + 3) (XN + 66)) s m args below meth c H locs 0 0 Q (F0 m 232 ls [.int x229.1])
      refine lv_if_eq (tgt := 239) hx hb dX3_readAtom_232 (by decide) (fun c2 => ?_) (fun c2 => ?_)
      · have hf := (if_pos c2).symm.trans hf
        refine lv_iconst (v := 0) hx hb dX3_readAtom_239 (by decide) ?_
        obtain rfl := Option.some.inj hf
        rw [hQ]
        exact r_zret C hr hk hW (Or.inl rfl) rfl rfl dX3_readAtom_240
      · have hf := (if_neg c2).symm.trans hf
        refine lv_iconst (v := 1) hx hb dX3_readAtom_235 (by decide) ?_
        refine lv_goto (tgt := 240) hx hb dX3_readAtom_236 (by decide) ?_
        obtain rfl := Option.some.inj hf
        rw [hQ]
        exact r_zret C hr hk hW (Or.inr rfl) rfl rfl dX3_readAtom_240
  have J131 : ∀ (μ : Mm) (H : Heap) (locs : List Loc) (ls : Array Slot), f_X3_readAtom_J131 sh ln fC fA μ = some res → Wd D (faB oa aa sh) (feB tc oa aa sh ln) A s.heap μ H locs → lv_has ls 3 [(0, .ref (oa (6, 1)))] → W p l e (rmq (XF + 3) (XN + 66)) s m args below meth c H locs 0 0 Q (F0 m 131 ls []) := by
    intro μ H locs ls hf hW hl
    unfold f_X3_readAtom_J131 at hf
    refine lv_aload_n hx hb dX3_readAtom_131 rfl (lv_at hl 0 rfl) ?_
    refine lv_aload_n hx hb dX3_readAtom_132 rfl (lv_at hl 0 rfl) ?_
    refine gf_X3_50 C hW dX3_readAtom_133 ?_
    refine lv_sipush (v := 314) hx hb dX3_readAtom_136 (by decide) ?_
    refine lv_icmp_ne (tgt := 148) hx hb dX3_readAtom_139 (by decide) (fun c3 => ?_) (fun c3 => ?_)
    · have hf := (if_neg c3).symm.trans hf
      refine lv_sipush (v := 1005) hx hb dX3_readAtom_148 (by decide) ?_
      obtain ⟨x151, h151, hf⟩ := bd_of hf
      refine r_callV (k := ((6, 1) : Ky)) C hW hl lk_X3_59 (c_X3_add hwf h151) ⟨rfl, rfl⟩ ⟨by simp only [rmq]; omega, by simp only [rmq]; omega⟩ rfl rfl rfl (As := [.int (1005 : Int32)]) (rest := []) rfl rfl (Nat.le_of_ble_eq_true rfl) dX3_readAtom_151 ⟨Nat.zero_le _, Nat.zero_le _⟩ (fun H locs hW => ?_)
      show W p l e (rmq (XF + 3) (XN + 66)) s m args below meth c H locs 0 0 Q (F0 m 154 ls [.int x151.1])
      refine lv_pop hx hb dX3_readAtom_154 rfl ?_
      refine lv_aload_n hx hb dX3_readAtom_155 rfl (lv_at hl 0 rfl) ?_
      obtain ⟨x156, h156, hf⟩ := bd_of hf
      refine r_callVU (k := ((6, 1) : Ky)) C hW hl lk_X3_53 (c_X8_step_1 hwf h156) ⟨rfl, rfl⟩ ⟨by simp only [rmq]; omega, by simp only [rmq]; omega⟩ rfl rfl rfl (As := []) (rest := []) rfl rfl (Nat.le_of_ble_eq_true rfl) dX3_readAtom_156 ⟨Nat.zero_le _, Nat.zero_le _⟩ (fun H locs hW => ?_)
      show W p l e (rmq (XF + 3) (XN + 66)) s m args below meth c H locs 0 0 Q (F0 m 159 ls [])
      refine lv_iconst (v := 1) hx hb dX3_readAtom_159 (by decide) ?_
      obtain rfl := Option.some.inj hf
      rw [hQ]
      exact r_zret C hr hk hW (Or.inr rfl) rfl rfl dX3_readAtom_160
    · have hf := (if_pos c3).symm.trans hf
      refine lv_sipush (v := 1004) hx hb dX3_readAtom_142 (by decide) ?_
      refine lv_goto (tgt := 151) hx hb dX3_readAtom_145 (by decide) ?_
      obtain ⟨x151, h151, hf⟩ := bd_of hf
      refine r_callV (k := ((6, 1) : Ky)) C hW hl lk_X3_59 (c_X3_add hwf h151) ⟨rfl, rfl⟩ ⟨by simp only [rmq]; omega, by simp only [rmq]; omega⟩ rfl rfl rfl (As := [.int (1004 : Int32)]) (rest := []) rfl rfl (Nat.le_of_ble_eq_true rfl) dX3_readAtom_151 ⟨Nat.zero_le _, Nat.zero_le _⟩ (fun H locs hW => ?_)
      show W p l e (rmq (XF + 3) (XN + 66)) s m args below meth c H locs 0 0 Q (F0 m 154 ls [.int x151.1])
      refine lv_pop hx hb dX3_readAtom_154 rfl ?_
      refine lv_aload_n hx hb dX3_readAtom_155 rfl (lv_at hl 0 rfl) ?_
      obtain ⟨x156, h156, hf⟩ := bd_of hf
      refine r_callVU (k := ((6, 1) : Ky)) C hW hl lk_X3_53 (c_X8_step_1 hwf h156) ⟨rfl, rfl⟩ ⟨by simp only [rmq]; omega, by simp only [rmq]; omega⟩ rfl rfl rfl (As := []) (rest := []) rfl rfl (Nat.le_of_ble_eq_true rfl) dX3_readAtom_156 ⟨Nat.zero_le _, Nat.zero_le _⟩ (fun H locs hW => ?_)
      show W p l e (rmq (XF + 3) (XN + 66)) s m args below meth c H locs 0 0 Q (F0 m 159 ls [])
      refine lv_iconst (v := 1) hx hb dX3_readAtom_159 (by decide) ?_
      obtain rfl := Option.some.inj hf
      rw [hQ]
      exact r_zret C hr hk hW (Or.inr rfl) rfl rfl dX3_readAtom_160
  have J49 : ∀ (μ : Mm) (s0 : Int32) (H : Heap) (locs : List Loc) (ls : Array Slot), f_X3_readAtom_J49 sh ln fC fA μ v1 s0 = some res → Wd D (faB oa aa sh) (feB tc oa aa sh ln) A s.heap μ H locs → lv_has ls 3 [(0, .ref (oa (6, 1))), (1, .int v1)] → W p l e (rmq (XF + 3) (XN + 66)) s m args below meth c H locs 0 0 Q (F0 m 49 ls [.int s0]) := by
    intro μ s0 H locs ls hf hW hl
    unfold f_X3_readAtom_J49 at hf
    refine lv_istore_n (lv' := [(2, .int s0), (0, .ref (oa (6, 1))), (1, .int v1)]) hx hb dX3_readAtom_49 rfl hl (by decide) rfl (fun ls hl => ?_)
    refine lv_aload_n hx hb dX3_readAtom_50 rfl (lv_at hl 1 rfl) ?_
    obtain ⟨x51, h51, hf⟩ := bd_of hf
    refine r_callVU (k := ((6, 1) : Ky)) C hW hl lk_X3_53 (c_X8_step_1 hwf h51) ⟨rfl, rfl⟩ ⟨by simp only [rmq]; omega, by simp only [rmq]; omega⟩ rfl rfl rfl (As := []) (rest := []) rfl rfl (Nat.le_of_ble_eq_true rfl) dX3_readAtom_51 ⟨Nat.zero_le _, Nat.zero_le _⟩ (fun H locs hW => ?_)
    show W p l e (rmq (XF + 3) (XN + 66)) s m args below meth c H locs 0 0 Q (F0 m 54 ls [])
    refine lv_iload_n hx hb dX3_readAtom_54 rfl (lv_at hl 0 rfl) ?_
    refine lv_if_eq (tgt := 86) hx hb dX3_readAtom_55 (by decide) (fun c4 => ?_) (fun c4 => ?_)
    · have hf := (if_pos c4).symm.trans hf
      refine lv_aload_n hx hb dX3_readAtom_86 rfl (lv_at hl 1 rfl) ?_
      refine lv_iload_n hx hb dX3_readAtom_87 rfl (lv_at hl 2 rfl) ?_
      refine lv_iconst (v := 1) hx hb dX3_readAtom_88 (by decide) ?_
      refine lv_iadd hx hb dX3_readAtom_89 ?_
      obtain ⟨x90, h90, hf⟩ := bd_of hf
      refine r_callV (k := ((6, 1) : Ky)) C hW hl lk_X3_56 (hfC h90) ⟨rfl, rfl⟩ ⟨by simp only [rmq]; omega, by simp only [rmq]; omega⟩ rfl rfl rfl (As := [.int (v1 + (1 : Int32))]) (rest := []) rfl rfl (Nat.le_of_ble_eq_true rfl) dX3_readAtom_90 ⟨Nat.zero_le _, Nat.zero_le _⟩ (fun H locs hW => ?_)
      show W p l e (rmq (XF + 3) (XN + 66)) s m args below meth c H locs 0 0 Q (F0 m 93 ls [.int x90.1])
      refine lv_if_eq (tgt := 109) hx hb dX3_readAtom_93 (by decide) (fun c5 => ?_) (fun c5 => ?_)
      · have hf := (if_pos c5).symm.trans hf
        refine lv_iconst (v := 0) hx hb dX3_readAtom_109 (by decide) ?_
        obtain rfl := Option.some.inj hf
        rw [hQ]
        exact r_zret C hr hk hW (Or.inl rfl) rfl rfl dX3_readAtom_110
      · have hf := (if_neg c5).symm.trans hf
        refine lv_aload_n hx hb dX3_readAtom_96 rfl (lv_at hl 1 rfl) ?_
        refine lv_bipush (v := 41) hx hb dX3_readAtom_97 (by decide) ?_
        obtain ⟨x99, h99, hf⟩ := bd_of hf
        refine r_callVU (k := ((6, 1) : Ky)) C hW hl lk_X3_39 (c_X8_take_1 hwf h99) ⟨rfl, rfl⟩ ⟨by simp only [rmq]; omega, by simp only [rmq]; omega⟩ rfl rfl rfl (As := [.int (41 : Int32)]) (rest := []) rfl rfl (Nat.le_of_ble_eq_true rfl) dX3_readAtom_99 ⟨Nat.zero_le _, Nat.zero_le _⟩ (fun H locs hW => ?_)
        show W p l e (rmq (XF + 3) (XN + 66)) s m args below meth c H locs 0 0 Q (F0 m 102 ls [.int x99.1])
        refine lv_if_eq (tgt := 109) hx hb dX3_readAtom_102 (by decide) (fun c6 => ?_) (fun c6 => ?_)
        · have hf := (if_pos c6).symm.trans hf
          refine lv_iconst (v := 0) hx hb dX3_readAtom_109 (by decide) ?_
          obtain rfl := Option.some.inj hf
          rw [hQ]
          exact r_zret C hr hk hW (Or.inl rfl) rfl rfl dX3_readAtom_110
        · have hf := (if_neg c6).symm.trans hf
          refine lv_iconst (v := 1) hx hb dX3_readAtom_105 (by decide) ?_
          refine lv_goto (tgt := 110) hx hb dX3_readAtom_106 (by decide) ?_
          obtain rfl := Option.some.inj hf
          rw [hQ]
          exact r_zret C hr hk hW (Or.inr rfl) rfl rfl dX3_readAtom_110
    · have hf := (if_neg c4).symm.trans hf
      refine lv_aload_n hx hb dX3_readAtom_58 rfl (lv_at hl 1 rfl) ?_
      refine lv_iload_n hx hb dX3_readAtom_59 rfl (lv_at hl 2 rfl) ?_
      refine lv_iconst (v := 1) hx hb dX3_readAtom_60 (by decide) ?_
      refine lv_iadd hx hb dX3_readAtom_61 ?_
      obtain ⟨x62, h62, hf⟩ := bd_of hf
      refine r_callV (k := ((6, 1) : Ky)) C hW hl lk_X3_67 (hfA h62) ⟨rfl, rfl⟩ ⟨by simp only [rmq]; omega, by simp only [rmq]; omega⟩ rfl rfl rfl (As := [.int (v1 + (1 : Int32))]) (rest := []) rfl rfl (Nat.le_of_ble_eq_true rfl) dX3_readAtom_62 ⟨Nat.zero_le _, Nat.zero_le _⟩ (fun H locs hW => ?_)
      show W p l e (rmq (XF + 3) (XN + 66)) s m args below meth c H locs 0 0 Q (F0 m 65 ls [.int x62.1])
      refine lv_if_eq (tgt := 82) hx hb dX3_readAtom_65 (by decide) (fun c7 => ?_) (fun c7 => ?_)
      · have hf := (if_pos c7).symm.trans hf
        refine lv_iconst (v := 0) hx hb dX3_readAtom_82 (by decide) ?_
        refine lv_goto (tgt := 110) hx hb dX3_readAtom_83 (by decide) ?_
        obtain rfl := Option.some.inj hf
        rw [hQ]
        exact r_zret C hr hk hW (Or.inl rfl) rfl rfl dX3_readAtom_110
      · have hf := (if_neg c7).symm.trans hf
        refine lv_aload_n hx hb dX3_readAtom_68 rfl (lv_at hl 1 rfl) ?_
        refine lv_sipush (v := 2003) hx hb dX3_readAtom_69 (by decide) ?_
        obtain ⟨x72, h72, hf⟩ := bd_of hf
        refine r_callV (k := ((6, 1) : Ky)) C hW hl lk_X3_59 (c_X3_add hwf h72) ⟨rfl, rfl⟩ ⟨by simp only [rmq]; omega, by simp only [rmq]; omega⟩ rfl rfl rfl (As := [.int (2003 : Int32)]) (rest := []) rfl rfl (Nat.le_of_ble_eq_true rfl) dX3_readAtom_72 ⟨Nat.zero_le _, Nat.zero_le _⟩ (fun H locs hW => ?_)
        show W p l e (rmq (XF + 3) (XN + 66)) s m args below meth c H locs 0 0 Q (F0 m 75 ls [.int x72.1])
        refine lv_if_eq (tgt := 82) hx hb dX3_readAtom_75 (by decide) (fun c8 => ?_) (fun c8 => ?_)
        · have hf := (if_pos c8).symm.trans hf
          refine lv_iconst (v := 0) hx hb dX3_readAtom_82 (by decide) ?_
          refine lv_goto (tgt := 110) hx hb dX3_readAtom_83 (by decide) ?_
          obtain rfl := Option.some.inj hf
          rw [hQ]
          exact r_zret C hr hk hW (Or.inl rfl) rfl rfl dX3_readAtom_110
        · have hf := (if_neg c8).symm.trans hf
          refine lv_iconst (v := 1) hx hb dX3_readAtom_78 (by decide) ?_
          refine lv_goto (tgt := 110) hx hb dX3_readAtom_79 (by decide) ?_
          obtain rfl := Option.some.inj hf
          rw [hQ]
          exact r_zret C hr hk hW (Or.inr rfl) rfl rfl dX3_readAtom_110
  have J19 : ∀ (μ : Mm) (H : Heap) (locs : List Loc) (ls : Array Slot), f_X3_readAtom_J19 sh ln fC fA μ v1 = some res → Wd D (faB oa aa sh) (feB tc oa aa sh ln) A s.heap μ H locs → lv_has ls 3 [(0, .ref (oa (6, 1))), (1, .int v1)] → W p l e (rmq (XF + 3) (XN + 66)) s m args below meth c H locs 0 0 Q (F0 m 19 ls []) := by
    intro μ H locs ls hf hW hl
    unfold f_X3_readAtom_J19 at hf
    refine lv_iload_n hx hb dX3_readAtom_19 rfl (lv_at hl 1 rfl) ?_
    refine lv_bipush (v := 6) hx hb dX3_readAtom_20 (by decide) ?_
    refine lv_icmp_lt (tgt := 34) hx hb dX3_readAtom_22 (by decide) (fun c9 => ?_) (fun c9 => ?_)
    · have hf := (if_pos c9).symm.trans hf
      refine lv_aload_n hx hb dX3_readAtom_34 rfl (lv_at hl 0 rfl) ?_
      refine gf_X3_50 C hW dX3_readAtom_35 ?_
      refine lv_sipush (v := 313) hx hb dX3_readAtom_38 (by decide) ?_
      refine lv_icmp_ne (tgt := 48) hx hb dX3_readAtom_41 (by decide) (fun c10 => ?_) (fun c10 => ?_)
      · have hf := (if_neg c10).symm.trans hf
        refine lv_iconst (v := 0) hx hb dX3_readAtom_48 (by decide) ?_
        exact J49 μ (0 : Int32) _ _ _ hf hW (lv_sub hl [0, 1] rfl)
      · have hf := (if_pos c10).symm.trans hf
        refine lv_iconst (v := 1) hx hb dX3_readAtom_44 (by decide) ?_
        refine lv_goto (tgt := 49) hx hb dX3_readAtom_45 (by decide) ?_
        exact J49 μ (1 : Int32) _ _ _ hf hW (lv_sub hl [0, 1] rfl)
    · have hf := (if_neg c9).symm.trans hf
      refine lv_aload_n hx hb dX3_readAtom_25 rfl (lv_at hl 0 rfl) ?_
      refine lv_aload_n hx hb dX3_readAtom_26 rfl (lv_at hl 0 rfl) ?_
      refine gf_X3_70 C hW dX3_readAtom_27 ?_
      obtain ⟨x30, h30, hf⟩ := bd_of hf
      refine r_callVU (k := ((6, 1) : Ky)) C hW hl lk_X3_73 (c_X8_wrongAt_1 hwf h30) ⟨rfl, rfl⟩ ⟨by simp only [rmq]; omega, by simp only [rmq]; omega⟩ rfl rfl rfl (As := [.int (μ (6, 1) 9)]) (rest := []) rfl rfl (Nat.le_of_ble_eq_true rfl) dX3_readAtom_30 ⟨Nat.zero_le _, Nat.zero_le _⟩ (fun H locs hW => ?_)
      show W p l e (rmq (XF + 3) (XN + 66)) s m args below meth c H locs 0 0 Q (F0 m 33 ls [.int x30.1])
      obtain ⟨hz11, hf⟩ := cb_of hf
      obtain rfl := Option.some.inj hf
      rw [hQ]
      exact r_zret C hr hk hW hz11 rfl rfl dX3_readAtom_33
  refine lv_aload_n hx hb dX3_readAtom_0 rfl (lv_at hl 0 rfl) ?_
  refine gf_X3_50 C hW dX3_readAtom_1 ?_
  refine lv_sipush (v := 313) hx hb dX3_readAtom_4 (by decide) ?_
  refine lv_icmp_eq (tgt := 19) hx hb dX3_readAtom_7 (by decide) (fun c12 => ?_) (fun c12 => ?_)
  · have hf := (if_pos c12).symm.trans hf
    exact J19 μ _ _ _ hf hW (lv_sub hl [0, 1] rfl)
  · have hf := (if_neg c12).symm.trans hf
    refine lv_aload_n hx hb dX3_readAtom_10 rfl (lv_at hl 0 rfl) ?_
    refine gf_X3_50 C hW dX3_readAtom_11 ?_
    refine lv_bipush (v := 40) hx hb dX3_readAtom_14 (by decide) ?_
    refine lv_icmp_ne (tgt := 111) hx hb dX3_readAtom_16 (by decide) (fun c13 => ?_) (fun c13 => ?_)
    · have hf := (if_neg c13).symm.trans hf
      refine lv_aload_n hx hb dX3_readAtom_111 rfl (lv_at hl 0 rfl) ?_
      refine gf_X3_50 C hW dX3_readAtom_112 ?_
      refine lv_sipush (v := 314) hx hb dX3_readAtom_115 (by decide) ?_
      refine lv_icmp_eq (tgt := 131) hx hb dX3_readAtom_118 (by decide) (fun c14 => ?_) (fun c14 => ?_)
      · have hf := (if_pos c14).symm.trans hf
        exact J131 μ _ _ _ hf hW (lv_sub hl [0] rfl)
      · have hf := (if_neg c14).symm.trans hf
        refine lv_aload_n hx hb dX3_readAtom_121 rfl (lv_at hl 0 rfl) ?_
        refine gf_X3_50 C hW dX3_readAtom_122 ?_
        refine lv_sipush (v := 315) hx hb dX3_readAtom_125 (by decide) ?_
        refine lv_icmp_ne (tgt := 161) hx hb dX3_readAtom_128 (by decide) (fun c15 => ?_) (fun c15 => ?_)
        · have hf := (if_neg c15).symm.trans hf
          refine lv_aload_n hx hb dX3_readAtom_161 rfl (lv_at hl 0 rfl) ?_
          obtain ⟨x162, h162, hf⟩ := bd_of hf
          refine r_callV (k := ((6, 1) : Ky)) C hW hl lk_X3_76 (c_X3_readSum hwf h162) ⟨rfl, rfl⟩ ⟨by simp only [rmq]; omega, by simp only [rmq]; omega⟩ rfl rfl rfl (As := []) (rest := []) rfl rfl (Nat.le_of_ble_eq_true rfl) dX3_readAtom_162 ⟨Nat.zero_le _, Nat.zero_le _⟩ (fun H locs hW => ?_)
          show W p l e (rmq (XF + 3) (XN + 66)) s m args below meth c H locs 0 0 Q (F0 m 165 ls [.int x162.1])
          refine lv_if_ne (tgt := 170) hx hb dX3_readAtom_165 (by decide) (fun c16 => ?_) (fun c16 => ?_)
          · have hf := (if_neg c16).symm.trans hf
            refine lv_aload_n hx hb dX3_readAtom_170 rfl (lv_at hl 0 rfl) ?_
            refine gf_X3_50 C hW dX3_readAtom_171 ?_
            refine lv_bipush (v := 60) hx hb dX3_readAtom_174 (by decide) ?_
            refine lv_icmp_eq (tgt := 197) hx hb dX3_readAtom_176 (by decide) (fun c17 => ?_) (fun c17 => ?_)
            · have hf := (if_pos c17).symm.trans hf
              refine lv_aload_n hx hb dX3_readAtom_197 rfl (lv_at hl 0 rfl) ?_
              refine gf_X3_50 C hW dX3_readAtom_198 ?_
              refine lv_bipush (v := 60) hx hb dX3_readAtom_201 (by decide) ?_
              refine lv_icmp_ne (tgt := 212) hx hb dX3_readAtom_203 (by decide) (fun c18 => ?_) (fun c18 => ?_)
              · have hf := (if_neg c18).symm.trans hf
                refine lv_sipush (v := 2002) hx hb dX3_readAtom_212 (by decide) ?_
                exact J215 x162.2 (2002 : Int32) _ _ _ hf hW (lv_sub hl [0] rfl)
              · have hf := (if_pos c18).symm.trans hf
                refine lv_sipush (v := 2001) hx hb dX3_readAtom_206 (by decide) ?_
                refine lv_goto (tgt := 215) hx hb dX3_readAtom_209 (by decide) ?_
                exact J215 x162.2 (2001 : Int32) _ _ _ hf hW (lv_sub hl [0] rfl)
            · have hf := (if_neg c17).symm.trans hf
              refine lv_aload_n hx hb dX3_readAtom_179 rfl (lv_at hl 0 rfl) ?_
              refine gf_X3_50 C hW dX3_readAtom_180 ?_
              refine lv_bipush (v := 62) hx hb dX3_readAtom_183 (by decide) ?_
              refine lv_icmp_eq (tgt := 197) hx hb dX3_readAtom_185 (by decide) (fun c19 => ?_) (fun c19 => ?_)
              · have hf := (if_pos c19).symm.trans hf
                refine lv_aload_n hx hb dX3_readAtom_197 rfl (lv_at hl 0 rfl) ?_
                refine gf_X3_50 C hW dX3_readAtom_198 ?_
                refine lv_bipush (v := 60) hx hb dX3_readAtom_201 (by decide) ?_
                refine lv_icmp_ne (tgt := 212) hx hb dX3_readAtom_203 (by decide) (fun c20 => ?_) (fun c20 => ?_)
                · have hf := (if_neg c20).symm.trans hf
                  refine lv_sipush (v := 2002) hx hb dX3_readAtom_212 (by decide) ?_
                  exact J215 x162.2 (2002 : Int32) _ _ _ hf hW (lv_sub hl [0] rfl)
                · have hf := (if_pos c20).symm.trans hf
                  refine lv_sipush (v := 2001) hx hb dX3_readAtom_206 (by decide) ?_
                  refine lv_goto (tgt := 215) hx hb dX3_readAtom_209 (by decide) ?_
                  exact J215 x162.2 (2001 : Int32) _ _ _ hf hW (lv_sub hl [0] rfl)
              · have hf := (if_neg c19).symm.trans hf
                refine lv_aload_n hx hb dX3_readAtom_188 rfl (lv_at hl 0 rfl) ?_
                refine lv_aload_n hx hb dX3_readAtom_189 rfl (lv_at hl 0 rfl) ?_
                refine gf_X3_70 C hW dX3_readAtom_190 ?_
                obtain ⟨x193, h193, hf⟩ := bd_of hf
                refine r_callVU (k := ((6, 1) : Ky)) C hW hl lk_X3_73 (c_X8_wrongAt_1 hwf h193) ⟨rfl, rfl⟩ ⟨by simp only [rmq]; omega, by simp only [rmq]; omega⟩ rfl rfl rfl (As := [.int (x162.2 (6, 1) 9)]) (rest := []) rfl rfl (Nat.le_of_ble_eq_true rfl) dX3_readAtom_193 ⟨Nat.zero_le _, Nat.zero_le _⟩ (fun H locs hW => ?_)
                show W p l e (rmq (XF + 3) (XN + 66)) s m args below meth c H locs 0 0 Q (F0 m 196 ls [.int x193.1])
                obtain ⟨hz21, hf⟩ := cb_of hf
                obtain rfl := Option.some.inj hf
                rw [hQ]
                exact r_zret C hr hk hW hz21 rfl rfl dX3_readAtom_196
          · have hf := (if_pos c16).symm.trans hf
            refine lv_iconst (v := 0) hx hb dX3_readAtom_168 (by decide) ?_
            obtain rfl := Option.some.inj hf
            rw [hQ]
            exact r_zret C hr hk hW (Or.inl rfl) rfl rfl dX3_readAtom_169
        · have hf := (if_pos c15).symm.trans hf
          exact J131 μ _ _ _ hf hW (lv_sub hl [0] rfl)
    · have hf := (if_pos c13).symm.trans hf
      exact J19 μ _ _ _ hf hW (lv_sub hl [0, 1] rfl)
set_option maxHeartbeats 4000000 in
set_option maxRecDepth 100000 in
theorem c_X3_readAll {l : Launch} {D : va_G} {tc : Nat → ClassId} {ro : Ro} {oa : Ky → Nat} {aa : Nat → Nat} {sh : Sh} {ln : Nat → Nat} {XF XN : Nat} (hAN : 10 ≤ XF ∧ 400 ≤ XN) {fA : Mm → Int32 → Option (Int32 × Mm)} (hfA : ∀ {μ : Mm} {v : Int32} {res : Int32 × Mm}, fA μ v = some res → Ct l D tc ro (faB oa aa sh) (feB tc oa aa sh ln) yX3_readAtom cX3_readAtom 3 (some .boolean) (rmq XF XN) [.ref (oa (6, 1)), .int v] μ (some (.int res.1)) res.2) {μ : Mm} {v1 : Int32} {res : Int32 × Mm} (hwf : WfS sh) (hf : f_X3_readAll sh ln fA μ v1 = some res) : Ct l D tc ro (faB oa aa sh) (feB tc oa aa sh ln) yX3_readAll cX3_readAll 3 (some .boolean) (rmq (XF + 1) (XN + 22)) [.ref (oa (6, 1)), .int v1] μ (some (.int res.1)) res.2 := by
  refine Ct.of (by decide) (Nat.le_of_ble_eq_true rfl) (fun p e s m args below meth c A C hr hk hW ls hl => ?_)
  have hx := C.1.1
  have hb := C.1.2.1
  obtain ⟨Q, hQ⟩ : ∃ Q, Q = MQ below (Ctq D (faB oa aa sh) (feB tc oa aa sh ln) (some (.int res.1)) res.2 A) args s 0 0 A := ⟨_, rfl⟩
  rw [← hQ]
  have hl : lv_has ls 3 [(0, .ref (oa (6, 1))), (1, .int v1)] := hl
  unfold f_X3_readAll at hf
  refine lv_aload_n hx hb dX3_readAll_0 rfl (lv_at hl 0 rfl) ?_
  refine lv_iload_n hx hb dX3_readAll_1 rfl (lv_at hl 1 rfl) ?_
  obtain ⟨x2, h2, hf⟩ := bd_of hf
  refine r_callV (k := ((6, 1) : Ky)) C hW hl lk_X3_67 (hfA h2) ⟨rfl, rfl⟩ ⟨by simp only [rmq]; omega, by simp only [rmq]; omega⟩ rfl rfl rfl (As := [.int v1]) (rest := []) rfl rfl (Nat.le_of_ble_eq_true rfl) dX3_readAll_2 ⟨Nat.zero_le _, Nat.zero_le _⟩ (fun H locs hW => ?_)
  show W p l e (rmq (XF + 1) (XN + 22)) s m args below meth c H locs 0 0 Q (F0 m 5 ls [.int x2.1])
  refine lv_if_ne (tgt := 10) hx hb dX3_readAll_5 (by decide) (fun c1 => ?_) (fun c1 => ?_)
  · have hf := (if_neg c1).symm.trans hf
    refine lv_iconst (v := 0) hx hb dX3_readAll_10 (by decide) ?_
    refine lv_istore_n (lv' := [(2, .int (0 : Int32)), (0, .ref (oa (6, 1))), (1, .int v1)]) hx hb dX3_readAll_11 rfl hl (by decide) rfl (fun ls hl => ?_)
    have L12 : ∀ (μ : Mm) (v2 : Int32) (H : Heap) (locs : List Loc) (ls : Array Slot), Wh (fun z : Mm × Int32 => f_X3_readAll_L12 sh ln fA v1 z.1 z.2) (μ, v2) = some res → Wd D (faB oa aa sh) (feB tc oa aa sh ln) A s.heap μ H locs → lv_has ls 3 [(0, .ref (oa (6, 1))), (1, .int v1), (2, .int v2)] → W p l e (rmq (XF + 1) (XN + 22)) s m args below meth c H locs 0 0 Q (F0 m 12 ls []) := by
      intro μ v2 H locs ls hf hW hl
      refine Wh_rule hf (fun z : Mm × Int32 => ∀ (H : Heap) (locs : List Loc) (ls : Array Slot), Wd D (faB oa aa sh) (feB tc oa aa sh ln) A s.heap z.1 H locs → lv_has ls 3 [(0, .ref (oa (6, 1))), (1, .int v1), (2, .int z.2)] → W p l e (rmq (XF + 1) (XN + 22)) s m args below meth c H locs 0 0 Q (F0 m 12 ls [])) (fun z o1 hf Kl1 Kr1 => ?_) _ _ _ hW hl
      obtain ⟨μ, v2⟩ := z
      intro H locs ls hW hl
      have hf : f_X3_readAll_L12 sh ln fA v1 μ v2 = some o1 := hf
      unfold f_X3_readAll_L12 at hf
      have hW : Wd D (faB oa aa sh) (feB tc oa aa sh ln) A s.heap μ H locs := hW
      have hl : lv_has ls 3 [(0, .ref (oa (6, 1))), (1, .int v1), (2, .int v2)] := hl
      refine lv_iload_n hx hb dX3_readAll_12 rfl (lv_at hl 2 rfl) ?_
      refine lv_sipush (v := 400) hx hb dX3_readAll_13 (by decide) ?_
      refine lv_icmp_ge (tgt := 57) hx hb dX3_readAll_16 (by decide) (fun c2 => ?_) (fun c2 => ?_)
      · have hf := (if_pos c2).symm.trans hf
        obtain ⟨x9003, hf, hx9003⟩ := map_of hf
        have e9003 := (Kr1 _ hx9003.symm).symm
        subst e9003
        refine lv_iconst (v := 1) hx hb dX3_readAll_57 (by decide) ?_
        obtain rfl := Option.some.inj hf
        rw [hQ]
        exact r_zret C hr hk hW (Or.inr rfl) rfl rfl dX3_readAll_58
      · have hf := (if_neg c2).symm.trans hf
        refine lv_aload_n hx hb dX3_readAll_19 rfl (lv_at hl 0 rfl) ?_
        refine gf_X3_50 C hW dX3_readAll_20 ?_
        refine lv_sipush (v := 312) hx hb dX3_readAll_23 (by decide) ?_
        refine lv_icmp_ne (tgt := 57) hx hb dX3_readAll_26 (by decide) (fun c4 => ?_) (fun c4 => ?_)
        · have hf := (if_neg c4).symm.trans hf
          obtain ⟨x9005, hf, hx9005⟩ := map_of hf
          have e9005 := (Kr1 _ hx9005.symm).symm
          subst e9005
          refine lv_iconst (v := 1) hx hb dX3_readAll_57 (by decide) ?_
          obtain rfl := Option.some.inj hf
          rw [hQ]
          exact r_zret C hr hk hW (Or.inr rfl) rfl rfl dX3_readAll_58
        · have hf := (if_pos c4).symm.trans hf
          refine lv_aload_n hx hb dX3_readAll_29 rfl (lv_at hl 0 rfl) ?_
          obtain ⟨x30, h30, hf⟩ := bd_of hf
          refine r_callVU (k := ((6, 1) : Ky)) C hW hl lk_X3_53 (c_X8_step_1 hwf h30) ⟨rfl, rfl⟩ ⟨by simp only [rmq]; omega, by simp only [rmq]; omega⟩ rfl rfl rfl (As := []) (rest := []) rfl rfl (Nat.le_of_ble_eq_true rfl) dX3_readAll_30 ⟨Nat.zero_le _, Nat.zero_le _⟩ (fun H locs hW => ?_)
          show W p l e (rmq (XF + 1) (XN + 22)) s m args below meth c H locs 0 0 Q (F0 m 33 ls [])
          refine lv_aload_n hx hb dX3_readAll_33 rfl (lv_at hl 0 rfl) ?_
          refine lv_iload_n hx hb dX3_readAll_34 rfl (lv_at hl 1 rfl) ?_
          obtain ⟨x35, h35, hf⟩ := bd_of hf
          refine r_callV (k := ((6, 1) : Ky)) C hW hl lk_X3_67 (hfA h35) ⟨rfl, rfl⟩ ⟨by simp only [rmq]; omega, by simp only [rmq]; omega⟩ rfl rfl rfl (As := [.int v1]) (rest := []) rfl rfl (Nat.le_of_ble_eq_true rfl) dX3_readAll_35 ⟨Nat.zero_le _, Nat.zero_le _⟩ (fun H locs hW => ?_)
          show W p l e (rmq (XF + 1) (XN + 22)) s m args below meth c H locs 0 0 Q (F0 m 38 ls [.int x35.1])
          refine lv_if_ne (tgt := 43) hx hb dX3_readAll_38 (by decide) (fun c6 => ?_) (fun c6 => ?_)
          · have hf := (if_neg c6).symm.trans hf
            refine lv_aload_n hx hb dX3_readAll_43 rfl (lv_at hl 0 rfl) ?_
            refine lv_sipush (v := 2004) hx hb dX3_readAll_44 (by decide) ?_
            obtain ⟨x47, h47, hf⟩ := bd_of hf
            refine r_callV (k := ((6, 1) : Ky)) C hW hl lk_X3_59 (c_X3_add hwf h47) ⟨rfl, rfl⟩ ⟨by simp only [rmq]; omega, by simp only [rmq]; omega⟩ rfl rfl rfl (As := [.int (2004 : Int32)]) (rest := []) rfl rfl (Nat.le_of_ble_eq_true rfl) dX3_readAll_47 ⟨Nat.zero_le _, Nat.zero_le _⟩ (fun H locs hW => ?_)
            show W p l e (rmq (XF + 1) (XN + 22)) s m args below meth c H locs 0 0 Q (F0 m 50 ls [.int x47.1])
            refine lv_pop hx hb dX3_readAll_50 rfl ?_
            refine lv_iinc (v := (v2 + (1 : Int32))) (lv' := [(2, .int (v2 + (1 : Int32))), (0, .ref (oa (6, 1))), (1, .int v1)]) hx hb dX3_readAll_51 hl (k := 2) rfl rfl (by decide) rfl (fun ls hl => ?_)
            refine lv_goto (tgt := 12) hx hb dX3_readAll_54 (by decide) ?_
            obtain rfl := Option.some.inj hf
            exact Kl1 _ rfl _ _ _ hW (lv_sub hl [1, 2, 0] rfl)
          · have hf := (if_pos c6).symm.trans hf
            obtain ⟨x9007, hf, hx9007⟩ := map_of hf
            have e9007 := (Kr1 _ hx9007.symm).symm
            subst e9007
            refine lv_iconst (v := 0) hx hb dX3_readAll_41 (by decide) ?_
            obtain rfl := Option.some.inj hf
            rw [hQ]
            exact r_zret C hr hk hW (Or.inl rfl) rfl rfl dX3_readAll_42
    exact L12 x2.2 (0 : Int32) _ _ _ hf hW (lv_sub hl [1, 2, 0] rfl)
  · have hf := (if_pos c1).symm.trans hf
    refine lv_iconst (v := 0) hx hb dX3_readAll_8 (by decide) ?_
    obtain rfl := Option.some.inj hf
    rw [hQ]
    exact r_zret C hr hk hW (Or.inl rfl) rfl rfl dX3_readAll_9
set_option maxHeartbeats 4000000 in
set_option maxRecDepth 100000 in
theorem c_X3_readAny {l : Launch} {D : va_G} {tc : Nat → ClassId} {ro : Ro} {oa : Ky → Nat} {aa : Nat → Nat} {sh : Sh} {ln : Nat → Nat} {XF XN : Nat} (hAN : 10 ≤ XF ∧ 400 ≤ XN) {fB : Mm → Int32 → Option (Int32 × Mm)} (hfB : ∀ {μ : Mm} {v : Int32} {res : Int32 × Mm}, fB μ v = some res → Ct l D tc ro (faB oa aa sh) (feB tc oa aa sh ln) yX3_readAll cX3_readAll 3 (some .boolean) (rmq (XF + 1) (XN + 22)) [.ref (oa (6, 1)), .int v] μ (some (.int res.1)) res.2) {μ : Mm} {v1 : Int32} {res : Int32 × Mm} (hwf : WfS sh) (hf : f_X3_readAny sh ln fB μ v1 = some res) : Ct l D tc ro (faB oa aa sh) (feB tc oa aa sh ln) yX3_readAny cX3_readAny 3 (some .boolean) (rmq (XF + 2) (XN + 44)) [.ref (oa (6, 1)), .int v1] μ (some (.int res.1)) res.2 := by
  refine Ct.of (by decide) (Nat.le_of_ble_eq_true rfl) (fun p e s m args below meth c A C hr hk hW ls hl => ?_)
  have hx := C.1.1
  have hb := C.1.2.1
  obtain ⟨Q, hQ⟩ : ∃ Q, Q = MQ below (Ctq D (faB oa aa sh) (feB tc oa aa sh ln) (some (.int res.1)) res.2 A) args s 0 0 A := ⟨_, rfl⟩
  rw [← hQ]
  have hl : lv_has ls 3 [(0, .ref (oa (6, 1))), (1, .int v1)] := hl
  unfold f_X3_readAny at hf
  refine lv_aload_n hx hb dX3_readAny_0 rfl (lv_at hl 0 rfl) ?_
  refine lv_iload_n hx hb dX3_readAny_1 rfl (lv_at hl 1 rfl) ?_
  obtain ⟨x2, h2, hf⟩ := bd_of hf
  refine r_callV (k := ((6, 1) : Ky)) C hW hl lk_X3_62 (hfB h2) ⟨rfl, rfl⟩ ⟨by simp only [rmq]; omega, by simp only [rmq]; omega⟩ rfl rfl rfl (As := [.int v1]) (rest := []) rfl rfl (Nat.le_of_ble_eq_true rfl) dX3_readAny_2 ⟨Nat.zero_le _, Nat.zero_le _⟩ (fun H locs hW => ?_)
  show W p l e (rmq (XF + 2) (XN + 44)) s m args below meth c H locs 0 0 Q (F0 m 5 ls [.int x2.1])
  refine lv_if_ne (tgt := 10) hx hb dX3_readAny_5 (by decide) (fun c1 => ?_) (fun c1 => ?_)
  · have hf := (if_neg c1).symm.trans hf
    refine lv_iconst (v := 0) hx hb dX3_readAny_10 (by decide) ?_
    refine lv_istore_n (lv' := [(2, .int (0 : Int32)), (0, .ref (oa (6, 1))), (1, .int v1)]) hx hb dX3_readAny_11 rfl hl (by decide) rfl (fun ls hl => ?_)
    have L12 : ∀ (μ : Mm) (v2 : Int32) (H : Heap) (locs : List Loc) (ls : Array Slot), Wh (fun z : Mm × Int32 => f_X3_readAny_L12 sh ln fB v1 z.1 z.2) (μ, v2) = some res → Wd D (faB oa aa sh) (feB tc oa aa sh ln) A s.heap μ H locs → lv_has ls 3 [(0, .ref (oa (6, 1))), (1, .int v1), (2, .int v2)] → W p l e (rmq (XF + 2) (XN + 44)) s m args below meth c H locs 0 0 Q (F0 m 12 ls []) := by
      intro μ v2 H locs ls hf hW hl
      refine Wh_rule hf (fun z : Mm × Int32 => ∀ (H : Heap) (locs : List Loc) (ls : Array Slot), Wd D (faB oa aa sh) (feB tc oa aa sh ln) A s.heap z.1 H locs → lv_has ls 3 [(0, .ref (oa (6, 1))), (1, .int v1), (2, .int z.2)] → W p l e (rmq (XF + 2) (XN + 44)) s m args below meth c H locs 0 0 Q (F0 m 12 ls [])) (fun z o1 hf Kl1 Kr1 => ?_) _ _ _ hW hl
      obtain ⟨μ, v2⟩ := z
      intro H locs ls hW hl
      have hf : f_X3_readAny_L12 sh ln fB v1 μ v2 = some o1 := hf
      unfold f_X3_readAny_L12 at hf
      have hW : Wd D (faB oa aa sh) (feB tc oa aa sh ln) A s.heap μ H locs := hW
      have hl : lv_has ls 3 [(0, .ref (oa (6, 1))), (1, .int v1), (2, .int v2)] := hl
      refine lv_iload_n hx hb dX3_readAny_12 rfl (lv_at hl 2 rfl) ?_
      refine lv_sipush (v := 400) hx hb dX3_readAny_13 (by decide) ?_
      refine lv_icmp_ge (tgt := 57) hx hb dX3_readAny_16 (by decide) (fun c2 => ?_) (fun c2 => ?_)
      · have hf := (if_pos c2).symm.trans hf
        obtain ⟨x9003, hf, hx9003⟩ := map_of hf
        have e9003 := (Kr1 _ hx9003.symm).symm
        subst e9003
        refine lv_iconst (v := 1) hx hb dX3_readAny_57 (by decide) ?_
        obtain rfl := Option.some.inj hf
        rw [hQ]
        exact r_zret C hr hk hW (Or.inr rfl) rfl rfl dX3_readAny_58
      · have hf := (if_neg c2).symm.trans hf
        refine lv_aload_n hx hb dX3_readAny_19 rfl (lv_at hl 0 rfl) ?_
        refine gf_X3_50 C hW dX3_readAny_20 ?_
        refine lv_sipush (v := 311) hx hb dX3_readAny_23 (by decide) ?_
        refine lv_icmp_ne (tgt := 57) hx hb dX3_readAny_26 (by decide) (fun c4 => ?_) (fun c4 => ?_)
        · have hf := (if_neg c4).symm.trans hf
          obtain ⟨x9005, hf, hx9005⟩ := map_of hf
          have e9005 := (Kr1 _ hx9005.symm).symm
          subst e9005
          refine lv_iconst (v := 1) hx hb dX3_readAny_57 (by decide) ?_
          obtain rfl := Option.some.inj hf
          rw [hQ]
          exact r_zret C hr hk hW (Or.inr rfl) rfl rfl dX3_readAny_58
        · have hf := (if_pos c4).symm.trans hf
          refine lv_aload_n hx hb dX3_readAny_29 rfl (lv_at hl 0 rfl) ?_
          obtain ⟨x30, h30, hf⟩ := bd_of hf
          refine r_callVU (k := ((6, 1) : Ky)) C hW hl lk_X3_53 (c_X8_step_1 hwf h30) ⟨rfl, rfl⟩ ⟨by simp only [rmq]; omega, by simp only [rmq]; omega⟩ rfl rfl rfl (As := []) (rest := []) rfl rfl (Nat.le_of_ble_eq_true rfl) dX3_readAny_30 ⟨Nat.zero_le _, Nat.zero_le _⟩ (fun H locs hW => ?_)
          show W p l e (rmq (XF + 2) (XN + 44)) s m args below meth c H locs 0 0 Q (F0 m 33 ls [])
          refine lv_aload_n hx hb dX3_readAny_33 rfl (lv_at hl 0 rfl) ?_
          refine lv_iload_n hx hb dX3_readAny_34 rfl (lv_at hl 1 rfl) ?_
          obtain ⟨x35, h35, hf⟩ := bd_of hf
          refine r_callV (k := ((6, 1) : Ky)) C hW hl lk_X3_62 (hfB h35) ⟨rfl, rfl⟩ ⟨by simp only [rmq]; omega, by simp only [rmq]; omega⟩ rfl rfl rfl (As := [.int v1]) (rest := []) rfl rfl (Nat.le_of_ble_eq_true rfl) dX3_readAny_35 ⟨Nat.zero_le _, Nat.zero_le _⟩ (fun H locs hW => ?_)
          show W p l e (rmq (XF + 2) (XN + 44)) s m args below meth c H locs 0 0 Q (F0 m 38 ls [.int x35.1])
          refine lv_if_ne (tgt := 43) hx hb dX3_readAny_38 (by decide) (fun c6 => ?_) (fun c6 => ?_)
          · have hf := (if_neg c6).symm.trans hf
            refine lv_aload_n hx hb dX3_readAny_43 rfl (lv_at hl 0 rfl) ?_
            refine lv_sipush (v := 2005) hx hb dX3_readAny_44 (by decide) ?_
            obtain ⟨x47, h47, hf⟩ := bd_of hf
            refine r_callV (k := ((6, 1) : Ky)) C hW hl lk_X3_59 (c_X3_add hwf h47) ⟨rfl, rfl⟩ ⟨by simp only [rmq]; omega, by simp only [rmq]; omega⟩ rfl rfl rfl (As := [.int (2005 : Int32)]) (rest := []) rfl rfl (Nat.le_of_ble_eq_true rfl) dX3_readAny_47 ⟨Nat.zero_le _, Nat.zero_le _⟩ (fun H locs hW => ?_)
            show W p l e (rmq (XF + 2) (XN + 44)) s m args below meth c H locs 0 0 Q (F0 m 50 ls [.int x47.1])
            refine lv_pop hx hb dX3_readAny_50 rfl ?_
            refine lv_iinc (v := (v2 + (1 : Int32))) (lv' := [(2, .int (v2 + (1 : Int32))), (0, .ref (oa (6, 1))), (1, .int v1)]) hx hb dX3_readAny_51 hl (k := 2) rfl rfl (by decide) rfl (fun ls hl => ?_)
            refine lv_goto (tgt := 12) hx hb dX3_readAny_54 (by decide) ?_
            obtain rfl := Option.some.inj hf
            exact Kl1 _ rfl _ _ _ hW (lv_sub hl [1, 2, 0] rfl)
          · have hf := (if_pos c6).symm.trans hf
            obtain ⟨x9007, hf, hx9007⟩ := map_of hf
            have e9007 := (Kr1 _ hx9007.symm).symm
            subst e9007
            refine lv_iconst (v := 0) hx hb dX3_readAny_41 (by decide) ?_
            obtain rfl := Option.some.inj hf
            rw [hQ]
            exact r_zret C hr hk hW (Or.inl rfl) rfl rfl dX3_readAny_42
    exact L12 x2.2 (0 : Int32) _ _ _ hf hW (lv_sub hl [1, 2, 0] rfl)
  · have hf := (if_pos c1).symm.trans hf
    refine lv_iconst (v := 0) hx hb dX3_readAny_8 (by decide) ?_
    obtain rfl := Option.some.inj hf
    rw [hQ]
    exact r_zret C hr hk hW (Or.inl rfl) rfl rfl dX3_readAny_9
theorem c_X3_readAtomD {l : Launch} {D : va_G} {tc : Nat → ClassId} {ro : Ro} {oa : Ky → Nat} {aa : Nat → Nat} {sh : Sh} {ln : Nat → Nat} (hwf : WfS sh) : ∀ (d : Nat) {μ : Mm} {v : Int32} {res : Int32 × Mm}, f_X3_readAtomD sh ln d μ v = some res → Ct l D tc ro (faB oa aa sh) (feB tc oa aa sh ln) yX3_readAtom cX3_readAtom 3 (some .boolean) (rmq (10 + 3 * d) (400 + 66 * d)) [.ref (oa (6, 1)), .int v] μ (some (.int res.1)) res.2
  | 0, _, _, _, h => by cases h
  | d + 1, _, _, _, h => c_X3_readAtom (XF := 10 + 3 * d) (XN := 400 + 66 * d) (by omega) (c_X3_readAny (XF := 10 + 3 * d) (XN := 400 + 66 * d) (by omega) (c_X3_readAll (XF := 10 + 3 * d) (XN := 400 + 66 * d) (by omega) (c_X3_readAtomD hwf d) hwf) hwf) (c_X3_readAtomD hwf d) hwf h
theorem c_X3_readAnyD {l : Launch} {D : va_G} {tc : Nat → ClassId} {ro : Ro} {oa : Ky → Nat} {aa : Nat → Nat} {sh : Sh} {ln : Nat → Nat} (hwf : WfS sh) {μ : Mm} {v : Int32} {res : Int32 × Mm} (h : f_X3_readAnyD sh ln 8 μ v = some res) : Ct l D tc ro (faB oa aa sh) (feB tc oa aa sh ln) yX3_readAny cX3_readAny 3 (some .boolean) (rmq 36 972) [.ref (oa (6, 1)), .int v] μ (some (.int res.1)) res.2 :=
  c_X3_readAny (XF := 10 + 3 * 8) (XN := 400 + 66 * 8) (by omega) (c_X3_readAll (by omega) (c_X3_readAtomD hwf 8) hwf) hwf h
set_option maxHeartbeats 4000000 in
set_option maxRecDepth 100000 in
theorem c_X3_readLine {l : Launch} {D : va_G} {tc : Nat → ClassId} {ro : Ro} {oa : Ky → Nat} {aa : Nat → Nat} {sh : Sh} {ln : Nat → Nat} {μ : Mm} {res : Int32 × Mm} (hwf : WfS sh) (hf : f_X3_readLine sh ln μ = some res) : Ct l D tc ro (faB oa aa sh) (feB tc oa aa sh ln) yX3_readLine cX3_readLine 2 (some .boolean) (rmq 37 994) [.ref (oa (6, 1))] μ (some (.int res.1)) res.2 := by
  refine Ct.of (by decide) (Nat.le_of_ble_eq_true rfl) (fun p e s m args below meth c A C hr hk hW ls hl => ?_)
  have hx := C.1.1
  have hb := C.1.2.1
  obtain ⟨Q, hQ⟩ : ∃ Q, Q = MQ below (Ctq D (faB oa aa sh) (feB tc oa aa sh ln) (some (.int res.1)) res.2 A) args s 0 0 A := ⟨_, rfl⟩
  rw [← hQ]
  have hl : lv_has ls 2 [(0, .ref (oa (6, 1)))] := hl
  unfold f_X3_readLine at hf
  refine lv_aload_n hx hb dX3_readLine_0 rfl (lv_at hl 0 rfl) ?_
  refine lv_sipush (v := 309) hx hb dX3_readLine_1 (by decide) ?_
  obtain ⟨x4, h4, hf⟩ := bd_of hf
  refine r_callVU (k := ((6, 1) : Ky)) C hW hl lk_X3_39 (c_X8_take_1 hwf h4) ⟨rfl, rfl⟩ ⟨Nat.le_of_ble_eq_true rfl, Nat.le_of_ble_eq_true rfl⟩ rfl rfl rfl (As := [.int (309 : Int32)]) (rest := []) rfl rfl (Nat.le_of_ble_eq_true rfl) dX3_readLine_4 ⟨Nat.zero_le _, Nat.zero_le _⟩ (fun H locs hW => ?_)
  show W p l e (rmq 37 994) s m args below meth c H locs 0 0 Q (F0 m 7 ls [.int x4.1])
  refine lv_if_ne (tgt := 12) hx hb dX3_readLine_7 (by decide) (fun c1 => ?_) (fun c1 => ?_)
  · have hf := (if_neg c1).symm.trans hf
    refine lv_aload_n hx hb dX3_readLine_12 rfl (lv_at hl 0 rfl) ?_
    refine gf_X3_43 C hW dX3_readLine_13 ?_
    refine lv_istore_n (lv' := [(1, .int (x4.2 (6, 1) 10)), (0, .ref (oa (6, 1)))]) hx hb dX3_readLine_16 rfl hl (by decide) rfl (fun ls hl => ?_)
    refine lv_aload_n hx hb dX3_readLine_17 rfl (lv_at hl 1 rfl) ?_
    refine lv_iconst (v := 0) hx hb dX3_readLine_18 (by decide) ?_
    refine lv_sipush (v := 999) hx hb dX3_readLine_19 (by decide) ?_
    obtain ⟨x22, h22, hf⟩ := bd_of hf
    refine r_callVU (k := ((6, 1) : Ky)) C hW hl lk_X3_46 (c_X8_takeNumber_1 hwf h22) ⟨rfl, rfl⟩ ⟨Nat.le_of_ble_eq_true rfl, Nat.le_of_ble_eq_true rfl⟩ rfl rfl rfl (As := [.int (0 : Int32), .int (999 : Int32)]) (rest := []) rfl rfl (Nat.le_of_ble_eq_true rfl) dX3_readLine_22 ⟨Nat.zero_le _, Nat.zero_le _⟩ (fun H locs hW => ?_)
    show W p l e (rmq 37 994) s m args below meth c H locs 0 0 Q (F0 m 25 ls [.int x22.1])
    refine lv_if_ne (tgt := 30) hx hb dX3_readLine_25 (by decide) (fun c2 => ?_) (fun c2 => ?_)
    · have hf := (if_neg c2).symm.trans hf
      refine lv_aload_n hx hb dX3_readLine_30 rfl (lv_at hl 1 rfl) ?_
      refine gf_X3_50 C hW dX3_readLine_31 ?_
      refine lv_sipush (v := 310) hx hb dX3_readLine_34 (by decide) ?_
      refine lv_icmp_ne (tgt := 54) hx hb dX3_readLine_37 (by decide) (fun c3 => ?_) (fun c3 => ?_)
      · have hf := (if_neg c3).symm.trans hf
        refine lv_aload_n hx hb dX3_readLine_54 rfl (lv_at hl 1 rfl) ?_
        refine lv_iconst (v := 1) hx hb dX3_readLine_55 (by decide) ?_
        obtain ⟨x56, h56, hf⟩ := bd_of hf
        refine r_callV (k := ((6, 1) : Ky)) C hW hl lk_X3_59 (c_X3_add hwf h56) ⟨rfl, rfl⟩ ⟨Nat.le_of_ble_eq_true rfl, Nat.le_of_ble_eq_true rfl⟩ rfl rfl rfl (As := [.int (1 : Int32)]) (rest := []) rfl rfl (Nat.le_of_ble_eq_true rfl) dX3_readLine_56 ⟨Nat.zero_le _, Nat.zero_le _⟩ (fun H locs hW => ?_)
        show W p l e (rmq 37 994) s m args below meth c H locs 0 0 Q (F0 m 59 ls [.int x56.1])
        refine lv_pop hx hb dX3_readLine_59 rfl ?_
        refine lv_aload_n hx hb dX3_readLine_60 rfl (lv_at hl 1 rfl) ?_
        refine lv_iload_n hx hb dX3_readLine_61 rfl (lv_at hl 0 rfl) ?_
        obtain ⟨x62, h62, hf⟩ := bd_of hf
        refine r_callV (k := ((6, 1) : Ky)) C hW hl lk_X3_59 (c_X3_add hwf h62) ⟨rfl, rfl⟩ ⟨Nat.le_of_ble_eq_true rfl, Nat.le_of_ble_eq_true rfl⟩ rfl rfl rfl (As := [.int (x4.2 (6, 1) 10)]) (rest := []) rfl rfl (Nat.le_of_ble_eq_true rfl) dX3_readLine_62 ⟨Nat.zero_le _, Nat.zero_le _⟩ (fun H locs hW => ?_)
        show W p l e (rmq 37 994) s m args below meth c H locs 0 0 Q (F0 m 65 ls [.int x62.1])
        refine lv_pop hx hb dX3_readLine_65 rfl ?_
        refine lv_aload_n hx hb dX3_readLine_66 rfl (lv_at hl 1 rfl) ?_
        refine lv_sipush (v := 2006) hx hb dX3_readLine_67 (by decide) ?_
        obtain ⟨x70, h70, hf⟩ := bd_of hf
        refine r_callV (k := ((6, 1) : Ky)) C hW hl lk_X3_59 (c_X3_add hwf h70) ⟨rfl, rfl⟩ ⟨Nat.le_of_ble_eq_true rfl, Nat.le_of_ble_eq_true rfl⟩ rfl rfl rfl (As := [.int (2006 : Int32)]) (rest := []) rfl rfl (Nat.le_of_ble_eq_true rfl) dX3_readLine_70 ⟨Nat.zero_le _, Nat.zero_le _⟩ (fun H locs hW => ?_)
        show W p l e (rmq 37 994) s m args below meth c H locs 0 0 Q (F0 m 73 ls [.int x70.1])
        obtain ⟨hz4, hf⟩ := cb_of hf
        obtain rfl := Option.some.inj hf
        rw [hQ]
        exact r_zret C hr hk hW hz4 rfl rfl dX3_readLine_73
      · have hf := (if_pos c3).symm.trans hf
        refine lv_aload_n hx hb dX3_readLine_40 rfl (lv_at hl 1 rfl) ?_
        obtain ⟨x41, h41, hf⟩ := bd_of hf
        refine r_callVU (k := ((6, 1) : Ky)) C hW hl lk_X3_53 (c_X8_step_1 hwf h41) ⟨rfl, rfl⟩ ⟨Nat.le_of_ble_eq_true rfl, Nat.le_of_ble_eq_true rfl⟩ rfl rfl rfl (As := []) (rest := []) rfl rfl (Nat.le_of_ble_eq_true rfl) dX3_readLine_41 ⟨Nat.zero_le _, Nat.zero_le _⟩ (fun H locs hW => ?_)
        show W p l e (rmq 37 994) s m args below meth c H locs 0 0 Q (F0 m 44 ls [])
        refine lv_aload_n hx hb dX3_readLine_44 rfl (lv_at hl 1 rfl) ?_
        refine lv_iconst (v := 0) hx hb dX3_readLine_45 (by decide) ?_
        obtain ⟨x46, h46, hf⟩ := bd_of hf
        refine r_callV (k := ((6, 1) : Ky)) C hW hl lk_X3_56 (c_X3_readAnyD hwf h46) ⟨rfl, rfl⟩ ⟨Nat.le_of_ble_eq_true rfl, Nat.le_of_ble_eq_true rfl⟩ rfl rfl rfl (As := [.int (0 : Int32)]) (rest := []) rfl rfl (Nat.le_of_ble_eq_true rfl) dX3_readLine_46 ⟨Nat.zero_le _, Nat.zero_le _⟩ (fun H locs hW => ?_)
        show W p l e (rmq 37 994) s m args below meth c H locs 0 0 Q (F0 m 49 ls [.int x46.1])
        refine lv_if_ne (tgt := 60) hx hb dX3_readLine_49 (by decide) (fun c5 => ?_) (fun c5 => ?_)
        · have hf := (if_neg c5).symm.trans hf
          refine lv_aload_n hx hb dX3_readLine_60 rfl (lv_at hl 1 rfl) ?_
          refine lv_iload_n hx hb dX3_readLine_61 rfl (lv_at hl 0 rfl) ?_
          obtain ⟨x62, h62, hf⟩ := bd_of hf
          refine r_callV (k := ((6, 1) : Ky)) C hW hl lk_X3_59 (c_X3_add hwf h62) ⟨rfl, rfl⟩ ⟨Nat.le_of_ble_eq_true rfl, Nat.le_of_ble_eq_true rfl⟩ rfl rfl rfl (As := [.int (x4.2 (6, 1) 10)]) (rest := []) rfl rfl (Nat.le_of_ble_eq_true rfl) dX3_readLine_62 ⟨Nat.zero_le _, Nat.zero_le _⟩ (fun H locs hW => ?_)
          show W p l e (rmq 37 994) s m args below meth c H locs 0 0 Q (F0 m 65 ls [.int x62.1])
          refine lv_pop hx hb dX3_readLine_65 rfl ?_
          refine lv_aload_n hx hb dX3_readLine_66 rfl (lv_at hl 1 rfl) ?_
          refine lv_sipush (v := 2006) hx hb dX3_readLine_67 (by decide) ?_
          obtain ⟨x70, h70, hf⟩ := bd_of hf
          refine r_callV (k := ((6, 1) : Ky)) C hW hl lk_X3_59 (c_X3_add hwf h70) ⟨rfl, rfl⟩ ⟨Nat.le_of_ble_eq_true rfl, Nat.le_of_ble_eq_true rfl⟩ rfl rfl rfl (As := [.int (2006 : Int32)]) (rest := []) rfl rfl (Nat.le_of_ble_eq_true rfl) dX3_readLine_70 ⟨Nat.zero_le _, Nat.zero_le _⟩ (fun H locs hW => ?_)
          show W p l e (rmq 37 994) s m args below meth c H locs 0 0 Q (F0 m 73 ls [.int x70.1])
          obtain ⟨hz6, hf⟩ := cb_of hf
          obtain rfl := Option.some.inj hf
          rw [hQ]
          exact r_zret C hr hk hW hz6 rfl rfl dX3_readLine_73
        · have hf := (if_pos c5).symm.trans hf
          refine lv_iconst (v := 0) hx hb dX3_readLine_52 (by decide) ?_
          obtain rfl := Option.some.inj hf
          rw [hQ]
          exact r_zret C hr hk hW (Or.inl rfl) rfl rfl dX3_readLine_53
    · have hf := (if_pos c2).symm.trans hf
      refine lv_iconst (v := 0) hx hb dX3_readLine_28 (by decide) ?_
      obtain rfl := Option.some.inj hf
      rw [hQ]
      exact r_zret C hr hk hW (Or.inl rfl) rfl rfl dX3_readLine_29
  · have hf := (if_pos c1).symm.trans hf
    refine lv_iconst (v := 0) hx hb dX3_readLine_10 (by decide) ?_
    obtain rfl := Option.some.inj hf
    rw [hQ]
    exact r_zret C hr hk hW (Or.inl rfl) rfl rfl dX3_readLine_11
set_option maxHeartbeats 4000000 in
set_option maxRecDepth 100000 in
theorem c_X8_readLines_1 {l : Launch} {D : va_G} {tc : Nat → ClassId} {ro : Ro} {oa : Ky → Nat} {aa : Nat → Nat} {sh : Sh} {ln : Nat → Nat} {μ : Mm} {v1 : Int32} {res : Int32 × Mm} (hwf : WfS sh) (hf : f_X8_readLines_1 sh ln μ v1 = some res) : Ct l D tc ro (faB oa aa sh) (feB tc oa aa sh ln) yX8_readLines cX8_readLines 3 (some .int) (rmq 38 1015) [.ref (oa (6, 1)), .int v1] μ (some (.int res.1)) res.2 := by
  refine Ct.of (by decide) (Nat.le_of_ble_eq_true rfl) (fun p e s m args below meth c A C hr hk hW ls hl => ?_)
  have hx := C.1.1
  have hb := C.1.2.1
  obtain ⟨Q, hQ⟩ : ∃ Q, Q = MQ below (Ctq D (faB oa aa sh) (feB tc oa aa sh ln) (some (.int res.1)) res.2 A) args s 0 0 A := ⟨_, rfl⟩
  rw [← hQ]
  have hl : lv_has ls 3 [(0, .ref (oa (6, 1))), (1, .int v1)] := hl
  unfold f_X8_readLines_1 at hf
  refine lv_aload_n hx hb dX8_readLines_0 rfl (lv_at hl 0 rfl) ?_
  refine gf_X8_27_1 C hW dX8_readLines_1 ?_
  refine lv_if_ne (tgt := 9) hx hb dX8_readLines_4 (by decide) (fun c1 => ?_) (fun c1 => ?_)
  · have hf := (if_neg c1).symm.trans hf
    refine lv_iconst (v := 1) hx hb dX8_readLines_9 (by decide) ?_
    refine lv_istore_n (lv' := [(2, .int (1 : Int32)), (0, .ref (oa (6, 1))), (1, .int v1)]) hx hb dX8_readLines_10 rfl hl (by decide) rfl (fun ls hl => ?_)
    have L11 : ∀ (μ : Mm) (v2 : Int32) (H : Heap) (locs : List Loc) (ls : Array Slot), Wh (fun z : Mm × Int32 => f_X8_readLines_1_L11 sh ln v1 z.1 z.2) (μ, v2) = some res → Wd D (faB oa aa sh) (feB tc oa aa sh ln) A s.heap μ H locs → lv_has ls 3 [(0, .ref (oa (6, 1))), (1, .int v1), (2, .int v2)] → W p l e (rmq 38 1015) s m args below meth c H locs 0 0 Q (F0 m 11 ls []) := by
      intro μ v2 H locs ls hf hW hl
      refine Wh_rule hf (fun z : Mm × Int32 => ∀ (H : Heap) (locs : List Loc) (ls : Array Slot), Wd D (faB oa aa sh) (feB tc oa aa sh ln) A s.heap z.1 H locs → lv_has ls 3 [(0, .ref (oa (6, 1))), (1, .int v1), (2, .int z.2)] → W p l e (rmq 38 1015) s m args below meth c H locs 0 0 Q (F0 m 11 ls [])) (fun z o1 hf Kl1 Kr1 => ?_) _ _ _ hW hl
      obtain ⟨μ, v2⟩ := z
      intro H locs ls hW hl
      have hf : f_X8_readLines_1_L11 sh ln v1 μ v2 = some o1 := hf
      unfold f_X8_readLines_1_L11 at hf
      have hW : Wd D (faB oa aa sh) (feB tc oa aa sh ln) A s.heap μ H locs := hW
      have hl : lv_has ls 3 [(0, .ref (oa (6, 1))), (1, .int v1), (2, .int v2)] := hl
      refine lv_iload_n hx hb dX8_readLines_11 rfl (lv_at hl 2 rfl) ?_
      refine lv_iload_n hx hb dX8_readLines_12 rfl (lv_at hl 1 rfl) ?_
      refine lv_icmp_gt (tgt := 51) hx hb dX8_readLines_13 (by decide) (fun c2 => ?_) (fun c2 => ?_)
      · have hf := (if_pos c2).symm.trans hf
        obtain ⟨x9003, hf, hx9003⟩ := map_of hf
        have e9003 := (Kr1 _ hx9003.symm).symm
        subst e9003
        refine lv_aload_n hx hb dX8_readLines_51 rfl (lv_at hl 0 rfl) ?_
        refine lv_aload_n hx hb dX8_readLines_52 rfl (lv_at hl 0 rfl) ?_
        refine gf_X8_38_1 C hW dX8_readLines_53 ?_
        obtain ⟨x56, h56, hf⟩ := bd_of hf
        refine r_callVU (k := ((6, 1) : Ky)) C hW hl lk_X8_41_1 (c_X8_wrongAt_1 hwf h56) ⟨rfl, rfl⟩ ⟨Nat.le_of_ble_eq_true rfl, Nat.le_of_ble_eq_true rfl⟩ rfl rfl rfl (As := [.int (μ (6, 1) 9)]) (rest := []) rfl rfl (Nat.le_of_ble_eq_true rfl) dX8_readLines_56 ⟨Nat.zero_le _, Nat.zero_le _⟩ (fun H locs hW => ?_)
        show W p l e (rmq 38 1015) s m args below meth c H locs 0 0 Q (F0 m 59 ls [.int x56.1])
        refine lv_pop hx hb dX8_readLines_59 rfl ?_
        refine lv_iconst (v := -1) hx hb dX8_readLines_60 (by decide) ?_
        obtain rfl := Option.some.inj hf
        rw [hQ]
        exact r_iret C hr hk hW rfl rfl dX8_readLines_61
      · have hf := (if_neg c2).symm.trans hf
        refine lv_aload_n hx hb dX8_readLines_16 rfl (lv_at hl 0 rfl) ?_
        obtain ⟨x17, h17, hf⟩ := bd_of hf
        refine r_callVU (k := ((6, 1) : Ky)) C hW hl lk_X8_30_1 (c_X3_readLine hwf h17) ⟨rfl, rfl⟩ ⟨Nat.le_of_ble_eq_true rfl, Nat.le_of_ble_eq_true rfl⟩ rfl rfl rfl (As := []) (rest := []) rfl rfl (Nat.le_of_ble_eq_true rfl) dX8_readLines_17 ⟨Nat.zero_le _, Nat.zero_le _⟩ (fun H locs hW => ?_)
        show W p l e (rmq 38 1015) s m args below meth c H locs 0 0 Q (F0 m 20 ls [.int x17.1])
        refine lv_if_ne (tgt := 25) hx hb dX8_readLines_20 (by decide) (fun c4 => ?_) (fun c4 => ?_)
        · have hf := (if_neg c4).symm.trans hf
          refine lv_aload_n hx hb dX8_readLines_25 rfl (lv_at hl 0 rfl) ?_
          refine gf_X8_27_1 C hW dX8_readLines_26 ?_
          refine lv_if_ne (tgt := 34) hx hb dX8_readLines_29 (by decide) (fun c5 => ?_) (fun c5 => ?_)
          · have hf := (if_neg c5).symm.trans hf
            refine lv_aload_n hx hb dX8_readLines_34 rfl (lv_at hl 0 rfl) ?_
            refine lv_bipush (v := 59) hx hb dX8_readLines_35 (by decide) ?_
            obtain ⟨x37, h37, hf⟩ := bd_of hf
            refine r_callVU (k := ((6, 1) : Ky)) C hW hl lk_X8_34_1 (c_X8_take_1 hwf h37) ⟨rfl, rfl⟩ ⟨Nat.le_of_ble_eq_true rfl, Nat.le_of_ble_eq_true rfl⟩ rfl rfl rfl (As := [.int (59 : Int32)]) (rest := []) rfl rfl (Nat.le_of_ble_eq_true rfl) dX8_readLines_37 ⟨Nat.zero_le _, Nat.zero_le _⟩ (fun H locs hW => ?_)
            show W p l e (rmq 38 1015) s m args below meth c H locs 0 0 Q (F0 m 40 ls [.int x37.1])
            refine lv_if_ne (tgt := 45) hx hb dX8_readLines_40 (by decide) (fun c6 => ?_) (fun c6 => ?_)
            · have hf := (if_neg c6).symm.trans hf
              refine lv_iinc (v := (v2 + (1 : Int32))) (lv' := [(2, .int (v2 + (1 : Int32))), (0, .ref (oa (6, 1))), (1, .int v1)]) hx hb dX8_readLines_45 hl (k := 2) rfl rfl (by decide) rfl (fun ls hl => ?_)
              refine lv_goto (tgt := 11) hx hb dX8_readLines_48 (by decide) ?_
              obtain rfl := Option.some.inj hf
              exact Kl1 _ rfl _ _ _ hW (lv_sub hl [1, 2, 0] rfl)
            · have hf := (if_pos c6).symm.trans hf
              obtain ⟨x9007, hf, hx9007⟩ := map_of hf
              have e9007 := (Kr1 _ hx9007.symm).symm
              subst e9007
              refine lv_iconst (v := -1) hx hb dX8_readLines_43 (by decide) ?_
              obtain rfl := Option.some.inj hf
              rw [hQ]
              exact r_iret C hr hk hW rfl rfl dX8_readLines_44
          · have hf := (if_pos c5).symm.trans hf
            obtain ⟨x9008, hf, hx9008⟩ := map_of hf
            have e9008 := (Kr1 _ hx9008.symm).symm
            subst e9008
            refine lv_iload_n hx hb dX8_readLines_32 rfl (lv_at hl 2 rfl) ?_
            obtain rfl := Option.some.inj hf
            rw [hQ]
            exact r_iret C hr hk hW rfl rfl dX8_readLines_33
        · have hf := (if_pos c4).symm.trans hf
          obtain ⟨x9009, hf, hx9009⟩ := map_of hf
          have e9009 := (Kr1 _ hx9009.symm).symm
          subst e9009
          refine lv_iconst (v := -1) hx hb dX8_readLines_23 (by decide) ?_
          obtain rfl := Option.some.inj hf
          rw [hQ]
          exact r_iret C hr hk hW rfl rfl dX8_readLines_24
    exact L11 μ (1 : Int32) _ _ _ hf hW (lv_sub hl [1, 2, 0] rfl)
  · have hf := (if_pos c1).symm.trans hf
    refine lv_iconst (v := 0) hx hb dX8_readLines_7 (by decide) ?_
    obtain rfl := Option.some.inj hf
    rw [hQ]
    exact r_iret C hr hk hW rfl rfl dX8_readLines_8
set_option maxHeartbeats 4000000 in
set_option maxRecDepth 100000 in
theorem c_X8_byteAt_1 {l : Launch} {D : va_G} {tc : Nat → ClassId} {ro : Ro} {oa : Ky → Nat} {aa : Nat → Nat} {sh : Sh} {ln : Nat → Nat} {μ : Mm} {v1 : Int32} {res : Int32} (hwf : WfS sh) (hf : f_X8_byteAt_1 sh ln μ v1 = some res) : Ct l D tc ro (faB oa aa sh) (feB tc oa aa sh ln) yX8_byteAt cX8_byteAt 2 (some .int) (rmq 2 42) [.ref (oa (6, 1)), .int v1] μ (some (.int res)) μ := by
  refine Ct.of (by decide) (Nat.le_of_ble_eq_true rfl) (fun p e s m args below meth c A C hr hk hW ls hl => ?_)
  have hx := C.1.1
  have hb := C.1.2.1
  obtain ⟨Q, hQ⟩ : ∃ Q, Q = MQ below (Ctq D (faB oa aa sh) (feB tc oa aa sh ln) (some (.int res)) μ A) args s 0 0 A := ⟨_, rfl⟩
  rw [← hQ]
  have hl : lv_has ls 2 [(0, .ref (oa (6, 1))), (1, .int v1)] := hl
  unfold f_X8_byteAt_1 at hf
  refine lv_aload_n hx hb dX8_byteAt_0 rfl (lv_at hl 0 rfl) ?_
  by_cases q1 : μ (6, 1) 5 = 0
  · have hf := (if_pos q1).symm.trans hf
    refine gn_X8_44_1 C hW q1 dX8_byteAt_1 ?_
    refine lv_ifnonnullN hx hb dX8_byteAt_4 ?_
    refine lv_iconst (v := 0) hx hb dX8_byteAt_7 (by decide) ?_
    refine lv_goto (tgt := 19) hx hb dX8_byteAt_8 (by decide) ?_
    obtain rfl := Option.some.inj hf
    rw [hQ]
    exact r_iret C hr hk hW rfl rfl dX8_byteAt_19
  · have hf := (if_neg q1).symm.trans hf
    refine gf_X8_44_1 C hW q1 dX8_byteAt_1 ?_
    refine lv_ifnonnull (tgt := 11) hx hb dX8_byteAt_4 (by decide) ?_
    refine lv_aload_n hx hb dX8_byteAt_11 rfl (lv_at hl 0 rfl) ?_
    by_cases q2 : μ (6, 1) 5 = 0
    · have hf := (if_pos q2).symm.trans hf
      refine gn_X8_44_1 C hW q2 dX8_byteAt_12 ?_
      refine lv_iload_n hx hb dX8_byteAt_15 rfl (lv_at hl 1 rfl) ?_
      cases hf
    · have hf := (if_neg q2).symm.trans hf
      refine gf_X8_44_1 C hW q2 dX8_byteAt_12 ?_
      refine lv_iload_n hx hb dX8_byteAt_15 rfl (lv_at hl 1 rfl) ?_
      obtain ⟨x16, h16, hf⟩ := bd_of hf
      refine r_callV (k := ((2, 0) : Ky)) C hW hl lk_X8_143 (c_X7_byteAt hwf h16) ⟨rfl, rfl⟩ ⟨Nat.le_of_ble_eq_true rfl, Nat.le_of_ble_eq_true rfl⟩ rfl rfl rfl (As := [.int v1]) (rest := []) rfl rfl (Nat.le_of_ble_eq_true rfl) dX8_byteAt_16 ⟨Nat.zero_le _, Nat.zero_le _⟩ (fun H locs hW => ?_)
      show W p l e (rmq 2 42) s m args below meth c H locs 0 0 Q (F0 m 19 ls [.int x16])
      obtain rfl := Option.some.inj hf
      rw [hQ]
      exact r_iret C hr hk hW rfl rfl dX8_byteAt_19
set_option maxHeartbeats 4000000 in
set_option maxRecDepth 100000 in
theorem c_X8_endOfThing_1 {l : Launch} {D : va_G} {tc : Nat → ClassId} {ro : Ro} {oa : Ky → Nat} {aa : Nat → Nat} {sh : Sh} {ln : Nat → Nat} {μ : Mm} {v1 : Int32} {res : Int32} (hwf : WfS sh) (hf : f_X8_endOfThing_1 sh ln μ v1 = some res) : Ct l D tc ro (faB oa aa sh) (feB tc oa aa sh ln) yX8_endOfThing cX8_endOfThing 3 (some .int) (rmq 3 63) [.ref (oa (6, 1)), .int v1] μ (some (.int res)) μ := by
  refine Ct.of (by decide) (Nat.le_of_ble_eq_true rfl) (fun p e s m args below meth c A C hr hk hW ls hl => ?_)
  have hx := C.1.1
  have hb := C.1.2.1
  obtain ⟨Q, hQ⟩ : ∃ Q, Q = MQ below (Ctq D (faB oa aa sh) (feB tc oa aa sh ln) (some (.int res)) μ A) args s 0 0 A := ⟨_, rfl⟩
  rw [← hQ]
  have hl : lv_has ls 3 [(0, .ref (oa (6, 1))), (1, .int v1)] := hl
  unfold f_X8_endOfThing_1 at hf
  refine lv_iload_n hx hb dX8_endOfThing_0 rfl (lv_at hl 1 rfl) ?_
  refine lv_iconst (v := 1) hx hb dX8_endOfThing_1 (by decide) ?_
  refine lv_iadd hx hb dX8_endOfThing_2 ?_
  refine lv_istore_n (lv' := [(2, .int (v1 + (1 : Int32))), (0, .ref (oa (6, 1))), (1, .int v1)]) hx hb dX8_endOfThing_3 rfl hl (by decide) rfl (fun ls hl => ?_)
  refine lv_aload_n hx hb dX8_endOfThing_4 rfl (lv_at hl 1 rfl) ?_
  refine lv_iload_n hx hb dX8_endOfThing_5 rfl (lv_at hl 2 rfl) ?_
  obtain ⟨x6, h6, hf⟩ := bd_of hf
  refine r_callVU (k := ((6, 1) : Ky)) C hW hl lk_X8_58_1 (c_X8_byteAt_1 hwf h6) ⟨rfl, rfl⟩ ⟨Nat.le_of_ble_eq_true rfl, Nat.le_of_ble_eq_true rfl⟩ rfl rfl rfl (As := [.int v1]) (rest := []) rfl rfl (Nat.le_of_ble_eq_true rfl) dX8_endOfThing_6 ⟨Nat.zero_le _, Nat.zero_le _⟩ (fun H locs hW => ?_)
  show W p l e (rmq 3 63) s m args below meth c H locs 0 0 Q (F0 m 9 ls [.int x6])
  obtain ⟨x9, h9, hf⟩ := bd_of hf
  refine r_callS C hW hl lk_X8_77 (c_X8_isLetter h9) ⟨rfl, rfl⟩ ⟨Nat.le_of_ble_eq_true rfl, Nat.le_of_ble_eq_true rfl⟩ (As := [.int x6]) (rest := []) rfl rfl (Nat.le_of_ble_eq_true rfl) dX8_endOfThing_9 ⟨Nat.zero_le _, Nat.zero_le _⟩ (fun H locs hW => ?_)
  show W p l e (rmq 3 63) s m args below meth c H locs 0 0 Q (F0 m 12 ls [.int x9])
  refine lv_if_eq (tgt := 40) hx hb dX8_endOfThing_12 (by decide) (fun c1 => ?_) (fun c1 => ?_)
  · have hf := (if_pos c1).symm.trans hf
    refine lv_aload_n hx hb dX8_endOfThing_40 rfl (lv_at hl 1 rfl) ?_
    refine lv_iload_n hx hb dX8_endOfThing_41 rfl (lv_at hl 2 rfl) ?_
    obtain ⟨x42, h42, hf⟩ := bd_of hf
    refine r_callVU (k := ((6, 1) : Ky)) C hW hl lk_X8_58_1 (c_X8_byteAt_1 hwf h42) ⟨rfl, rfl⟩ ⟨Nat.le_of_ble_eq_true rfl, Nat.le_of_ble_eq_true rfl⟩ rfl rfl rfl (As := [.int v1]) (rest := []) rfl rfl (Nat.le_of_ble_eq_true rfl) dX8_endOfThing_42 ⟨Nat.zero_le _, Nat.zero_le _⟩ (fun H locs hW => ?_)
    show W p l e (rmq 3 63) s m args below meth c H locs 0 0 Q (F0 m 45 ls [.int x42])
    obtain ⟨x45, h45, hf⟩ := bd_of hf
    refine r_callS C hW hl lk_X8_80 (c_X8_isDigit h45) ⟨rfl, rfl⟩ ⟨Nat.le_of_ble_eq_true rfl, Nat.le_of_ble_eq_true rfl⟩ (As := [.int x42]) (rest := []) rfl rfl (Nat.le_of_ble_eq_true rfl) dX8_endOfThing_45 ⟨Nat.zero_le _, Nat.zero_le _⟩ (fun H locs hW => ?_)
    show W p l e (rmq 3 63) s m args below meth c H locs 0 0 Q (F0 m 48 ls [.int x45])
    refine lv_if_eq (tgt := 76) hx hb dX8_endOfThing_48 (by decide) (fun c2 => ?_) (fun c2 => ?_)
    · have hf := (if_pos c2).symm.trans hf
      refine lv_iload_n hx hb dX8_endOfThing_76 rfl (lv_at hl 0 rfl) ?_
      obtain rfl := Option.some.inj hf
      rw [hQ]
      exact r_iret C hr hk hW rfl rfl dX8_endOfThing_77
    · have hf := (if_neg c2).symm.trans hf
      have L51 : ∀ (v2 : Int32) (H : Heap) (locs : List Loc) (ls : Array Slot), Wh (fun z : Int32 => f_X8_endOfThing_1_L51 sh ln μ z) (v2) = some res → Wd D (faB oa aa sh) (feB tc oa aa sh ln) A s.heap μ H locs → lv_has ls 3 [(0, .ref (oa (6, 1))), (2, .int v2)] → W p l e (rmq 3 63) s m args below meth c H locs 0 0 Q (F0 m 51 ls []) := by
        intro v2 H locs ls hf hW hl
        refine Wh_rule hf (fun z : Int32 => ∀ (H : Heap) (locs : List Loc) (ls : Array Slot), Wd D (faB oa aa sh) (feB tc oa aa sh ln) A s.heap μ H locs → lv_has ls 3 [(0, .ref (oa (6, 1))), (2, .int z)] → W p l e (rmq 3 63) s m args below meth c H locs 0 0 Q (F0 m 51 ls [])) (fun z o1 hf Kl1 Kr1 => ?_) _ _ _ hW hl
        obtain ⟨v2, ez⟩ : ∃ q, q = z := ⟨_, rfl⟩
        subst ez
        intro H locs ls hW hl
        have hf : f_X8_endOfThing_1_L51 sh ln μ v2 = some o1 := hf
        unfold f_X8_endOfThing_1_L51 at hf
        have hW : Wd D (faB oa aa sh) (feB tc oa aa sh ln) A s.heap μ H locs := hW
        have hl : lv_has ls 3 [(0, .ref (oa (6, 1))), (2, .int v2)] := hl
        refine lv_iload_n hx hb dX8_endOfThing_51 rfl (lv_at hl 1 rfl) ?_
        refine lv_aload_n hx hb dX8_endOfThing_52 rfl (lv_at hl 0 rfl) ?_
        refine gf_X8_48_1 C hW dX8_endOfThing_53 ?_
        refine lv_icmp_ge (tgt := 76) hx hb dX8_endOfThing_56 (by decide) (fun c3 => ?_) (fun c3 => ?_)
        · have hf := (if_pos c3).symm.trans hf
          obtain ⟨x9004, hf, hx9004⟩ := map_of hf
          have e9004 := (Kr1 _ hx9004.symm).symm
          subst e9004
          refine lv_iload_n hx hb dX8_endOfThing_76 rfl (lv_at hl 1 rfl) ?_
          obtain rfl := Option.some.inj hf
          rw [hQ]
          exact r_iret C hr hk hW rfl rfl dX8_endOfThing_77
        · have hf := (if_neg c3).symm.trans hf
          refine lv_aload_n hx hb dX8_endOfThing_59 rfl (lv_at hl 0 rfl) ?_
          refine lv_iload_n hx hb dX8_endOfThing_60 rfl (lv_at hl 1 rfl) ?_
          obtain ⟨x61, h61, hf⟩ := bd_of hf
          refine r_callVU (k := ((6, 1) : Ky)) C hW hl lk_X8_58_1 (c_X8_byteAt_1 hwf h61) ⟨rfl, rfl⟩ ⟨Nat.le_of_ble_eq_true rfl, Nat.le_of_ble_eq_true rfl⟩ rfl rfl rfl (As := [.int v2]) (rest := []) rfl rfl (Nat.le_of_ble_eq_true rfl) dX8_endOfThing_61 ⟨Nat.zero_le _, Nat.zero_le _⟩ (fun H locs hW => ?_)
          show W p l e (rmq 3 63) s m args below meth c H locs 0 0 Q (F0 m 64 ls [.int x61])
          obtain ⟨x64, h64, hf⟩ := bd_of hf
          refine r_callS C hW hl lk_X8_80 (c_X8_isDigit h64) ⟨rfl, rfl⟩ ⟨Nat.le_of_ble_eq_true rfl, Nat.le_of_ble_eq_true rfl⟩ (As := [.int x61]) (rest := []) rfl rfl (Nat.le_of_ble_eq_true rfl) dX8_endOfThing_64 ⟨Nat.zero_le _, Nat.zero_le _⟩ (fun H locs hW => ?_)
          show W p l e (rmq 3 63) s m args below meth c H locs 0 0 Q (F0 m 67 ls [.int x64])
          refine lv_if_eq (tgt := 76) hx hb dX8_endOfThing_67 (by decide) (fun c5 => ?_) (fun c5 => ?_)
          · have hf := (if_pos c5).symm.trans hf
            obtain ⟨x9006, hf, hx9006⟩ := map_of hf
            have e9006 := (Kr1 _ hx9006.symm).symm
            subst e9006
            refine lv_iload_n hx hb dX8_endOfThing_76 rfl (lv_at hl 1 rfl) ?_
            obtain rfl := Option.some.inj hf
            rw [hQ]
            exact r_iret C hr hk hW rfl rfl dX8_endOfThing_77
          · have hf := (if_neg c5).symm.trans hf
            refine lv_iinc (v := (v2 + (1 : Int32))) (lv' := [(2, .int (v2 + (1 : Int32))), (0, .ref (oa (6, 1)))]) hx hb dX8_endOfThing_70 hl (k := 1) rfl rfl (by decide) rfl (fun ls hl => ?_)
            refine lv_goto (tgt := 51) hx hb dX8_endOfThing_73 (by decide) ?_
            obtain rfl := Option.some.inj hf
            exact Kl1 _ rfl _ _ _ hW (lv_sub hl [1, 0] rfl)
      exact L51 (v1 + (1 : Int32)) _ _ _ hf hW (lv_sub hl [1, 0] rfl)
  · have hf := (if_neg c1).symm.trans hf
    have L15 : ∀ (v2 : Int32) (H : Heap) (locs : List Loc) (ls : Array Slot), Wh (fun z : Int32 => f_X8_endOfThing_1_L15 sh ln μ z) (v2) = some res → Wd D (faB oa aa sh) (feB tc oa aa sh ln) A s.heap μ H locs → lv_has ls 3 [(0, .ref (oa (6, 1))), (2, .int v2)] → W p l e (rmq 3 63) s m args below meth c H locs 0 0 Q (F0 m 15 ls []) := by
      intro v2 H locs ls hf hW hl
      refine Wh_rule hf (fun z : Int32 => ∀ (H : Heap) (locs : List Loc) (ls : Array Slot), Wd D (faB oa aa sh) (feB tc oa aa sh ln) A s.heap μ H locs → lv_has ls 3 [(0, .ref (oa (6, 1))), (2, .int z)] → W p l e (rmq 3 63) s m args below meth c H locs 0 0 Q (F0 m 15 ls [])) (fun z o1 hf Kl1 Kr1 => ?_) _ _ _ hW hl
      obtain ⟨v2, ez⟩ : ∃ q, q = z := ⟨_, rfl⟩
      subst ez
      intro H locs ls hW hl
      have hf : f_X8_endOfThing_1_L15 sh ln μ v2 = some o1 := hf
      unfold f_X8_endOfThing_1_L15 at hf
      have hW : Wd D (faB oa aa sh) (feB tc oa aa sh ln) A s.heap μ H locs := hW
      have hl : lv_has ls 3 [(0, .ref (oa (6, 1))), (2, .int v2)] := hl
      refine lv_iload_n hx hb dX8_endOfThing_15 rfl (lv_at hl 1 rfl) ?_
      refine lv_aload_n hx hb dX8_endOfThing_16 rfl (lv_at hl 0 rfl) ?_
      refine gf_X8_48_1 C hW dX8_endOfThing_17 ?_
      refine lv_icmp_ge (tgt := 76) hx hb dX8_endOfThing_20 (by decide) (fun c7 => ?_) (fun c7 => ?_)
      · have hf := (if_pos c7).symm.trans hf
        obtain ⟨x9008, hf, hx9008⟩ := map_of hf
        have e9008 := (Kr1 _ hx9008.symm).symm
        subst e9008
        refine lv_iload_n hx hb dX8_endOfThing_76 rfl (lv_at hl 1 rfl) ?_
        obtain rfl := Option.some.inj hf
        rw [hQ]
        exact r_iret C hr hk hW rfl rfl dX8_endOfThing_77
      · have hf := (if_neg c7).symm.trans hf
        refine lv_aload_n hx hb dX8_endOfThing_23 rfl (lv_at hl 0 rfl) ?_
        refine lv_iload_n hx hb dX8_endOfThing_24 rfl (lv_at hl 1 rfl) ?_
        obtain ⟨x25, h25, hf⟩ := bd_of hf
        refine r_callVU (k := ((6, 1) : Ky)) C hW hl lk_X8_58_1 (c_X8_byteAt_1 hwf h25) ⟨rfl, rfl⟩ ⟨Nat.le_of_ble_eq_true rfl, Nat.le_of_ble_eq_true rfl⟩ rfl rfl rfl (As := [.int v2]) (rest := []) rfl rfl (Nat.le_of_ble_eq_true rfl) dX8_endOfThing_25 ⟨Nat.zero_le _, Nat.zero_le _⟩ (fun H locs hW => ?_)
        show W p l e (rmq 3 63) s m args below meth c H locs 0 0 Q (F0 m 28 ls [.int x25])
        obtain ⟨x28, h28, hf⟩ := bd_of hf
        refine r_callS C hW hl lk_X8_77 (c_X8_isLetter h28) ⟨rfl, rfl⟩ ⟨Nat.le_of_ble_eq_true rfl, Nat.le_of_ble_eq_true rfl⟩ (As := [.int x25]) (rest := []) rfl rfl (Nat.le_of_ble_eq_true rfl) dX8_endOfThing_28 ⟨Nat.zero_le _, Nat.zero_le _⟩ (fun H locs hW => ?_)
        show W p l e (rmq 3 63) s m args below meth c H locs 0 0 Q (F0 m 31 ls [.int x28])
        refine lv_if_eq (tgt := 76) hx hb dX8_endOfThing_31 (by decide) (fun c9 => ?_) (fun c9 => ?_)
        · have hf := (if_pos c9).symm.trans hf
          obtain ⟨x9010, hf, hx9010⟩ := map_of hf
          have e9010 := (Kr1 _ hx9010.symm).symm
          subst e9010
          refine lv_iload_n hx hb dX8_endOfThing_76 rfl (lv_at hl 1 rfl) ?_
          obtain rfl := Option.some.inj hf
          rw [hQ]
          exact r_iret C hr hk hW rfl rfl dX8_endOfThing_77
        · have hf := (if_neg c9).symm.trans hf
          refine lv_iinc (v := (v2 + (1 : Int32))) (lv' := [(2, .int (v2 + (1 : Int32))), (0, .ref (oa (6, 1)))]) hx hb dX8_endOfThing_34 hl (k := 1) rfl rfl (by decide) rfl (fun ls hl => ?_)
          refine lv_goto (tgt := 15) hx hb dX8_endOfThing_37 (by decide) ?_
          obtain rfl := Option.some.inj hf
          exact Kl1 _ rfl _ _ _ hW (lv_sub hl [1, 0] rfl)
    exact L15 (v1 + (1 : Int32)) _ _ _ hf hW (lv_sub hl [1, 0] rfl)
