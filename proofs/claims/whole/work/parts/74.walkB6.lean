set_option maxHeartbeats 4000000 in
set_option maxRecDepth 100000 in
theorem c_X9_readPerson {l : Launch} {D : va_G} {tc : Nat → ClassId} {ro : Ro} {oa : Ky → Nat} {aa : Nat → Nat} {sh : Sh} {ln : Nat → Nat} {μ : Mm} {v1 : Int32} {res : Int32 × Mm} (hwf : WfS sh) (hf : f_X9_readPerson sh ln μ v1 = some res) : Ct l D tc ro (faB oa aa sh) (feB tc oa aa sh ln) yX9_readPerson cX9_readPerson 3 (some .boolean) (rmq 4 90) [.ref (oa (6, 0)), .int v1] μ (some (.int res.1)) res.2 := by
  refine Ct.of (by decide) (Nat.le_of_ble_eq_true rfl) (fun p e s m args below meth c A C hr hk hW ls hl => ?_)
  have hx := C.1.1
  have hb := C.1.2.1
  obtain ⟨Q, hQ⟩ : ∃ Q, Q = MQ below (Ctq D (faB oa aa sh) (feB tc oa aa sh ln) (some (.int res.1)) res.2 A) args s 0 0 A := ⟨_, rfl⟩
  rw [← hQ]
  have hl : lv_has ls 3 [(0, .ref (oa (6, 0))), (1, .int v1)] := hl
  unfold f_X9_readPerson at hf
  refine lv_aload_n hx hb dX9_readPerson_0 rfl (lv_at hl 0 rfl) ?_
  by_cases q1 : μ (6, 0) 12 = 0
  · have hf := (if_pos q1).symm.trans hf
    refine gn_X9_15 C hW q1 dX9_readPerson_1 ?_
    cases hf
  · have hf := (if_neg q1).symm.trans hf
    refine gf_X9_15 C hW q1 dX9_readPerson_1 ?_
    obtain ⟨hq1, hf⟩ := ce_of hf
    refine gf_X9_50 C hW hq1 dX9_readPerson_4 ?_
    refine lv_if_ne (tgt := 20) hx hb dX9_readPerson_7 (by decide) (fun c2 => ?_) (fun c2 => ?_)
    · have hf := (if_neg c2).symm.trans hf
      refine lv_aload_n hx hb dX9_readPerson_20 rfl (lv_at hl 0 rfl) ?_
      refine lv_iload_n hx hb dX9_readPerson_21 rfl (lv_at hl 1 rfl) ?_
      obtain ⟨x22, h22, hf⟩ := bd_of hf
      refine r_callVU (k := ((6, 0) : Ky)) C hW hl lk_X9_26 (c_X8_wrongAt_0 hwf h22) ⟨rfl, rfl⟩ ⟨Nat.le_of_ble_eq_true rfl, Nat.le_of_ble_eq_true rfl⟩ rfl rfl rfl (As := [.int v1]) (rest := []) rfl rfl (Nat.le_of_ble_eq_true rfl) dX9_readPerson_22 ⟨Nat.zero_le _, Nat.zero_le _⟩ (fun H locs hW => ?_)
      show W p l e (rmq 4 90) s m args below meth c H locs 0 0 Q (F0 m 25 ls [.int x22.1])
      obtain ⟨hz3, hf⟩ := cb_of hf
      obtain rfl := Option.some.inj hf
      rw [hQ]
      exact r_zret C hr hk hW hz3 rfl rfl dX9_readPerson_25
    · have hf := (if_pos c2).symm.trans hf
      refine lv_aload_n hx hb dX9_readPerson_10 rfl (lv_at hl 0 rfl) ?_
      by_cases q4 : μ (6, 0) 12 = 0
      · have hf := (if_pos q4).symm.trans hf
        refine gn_X9_15 C hW q4 dX9_readPerson_11 ?_
        cases hf
      · have hf := (if_neg q4).symm.trans hf
        refine gf_X9_15 C hW q4 dX9_readPerson_11 ?_
        obtain ⟨hq4, hf⟩ := ce_of hf
        obtain ⟨x14, h14, hf⟩ := bd_of hf
        refine r_callV (k := ((13, (μ (6, 0) 12).toNatClampNeg - 1) : Ky)) C hW hl lk_X9_69 (c_X6_hasRoom hwf hq4 h14) ⟨rfl, rfl⟩ ⟨Nat.le_of_ble_eq_true rfl, Nat.le_of_ble_eq_true rfl⟩ rfl (faB_13 hq4) rfl (As := []) (rest := []) rfl rfl (Nat.le_of_ble_eq_true rfl) dX9_readPerson_14 ⟨Nat.zero_le _, Nat.zero_le _⟩ (fun H locs hW => ?_)
        show W p l e (rmq 4 90) s m args below meth c H locs 0 0 Q (F0 m 17 ls [.int x14])
        refine lv_if_ne (tgt := 26) hx hb dX9_readPerson_17 (by decide) (fun c5 => ?_) (fun c5 => ?_)
        · have hf := (if_neg c5).symm.trans hf
          refine lv_aload_n hx hb dX9_readPerson_26 rfl (lv_at hl 0 rfl) ?_
          refine gf_X9_59 C hW dX9_readPerson_27 ?_
          refine lv_istore_n (lv' := [(2, .int (μ (6, 0) 10)), (0, .ref (oa (6, 0))), (1, .int v1)]) hx hb dX9_readPerson_30 rfl hl (by decide) rfl (fun ls hl => ?_)
          refine lv_aload_n hx hb dX9_readPerson_31 rfl (lv_at hl 1 rfl) ?_
          refine lv_iconst (v := 0) hx hb dX9_readPerson_32 (by decide) ?_
          refine lv_aload_n hx hb dX9_readPerson_33 rfl (lv_at hl 1 rfl) ?_
          by_cases q6 : μ (6, 0) 12 = 0
          · have hf := (if_pos q6).symm.trans hf
            refine gn_X9_15 C hW q6 dX9_readPerson_34 ?_
            cases hf
          · have hf := (if_neg q6).symm.trans hf
            refine gf_X9_15 C hW q6 dX9_readPerson_34 ?_
            obtain ⟨hq6, hf⟩ := ce_of hf
            refine gf_X9_66 C hW hq6 dX9_readPerson_37 ?_
            refine lv_iconst (v := 1) hx hb dX9_readPerson_40 (by decide) ?_
            refine lv_isub hx hb dX9_readPerson_41 ?_
            obtain ⟨x42, h42, hf⟩ := bd_of hf
            refine r_callVU (k := ((6, 0) : Ky)) C hW hl lk_X9_62 (c_X8_takeNumber_0 hwf h42) ⟨rfl, rfl⟩ ⟨Nat.le_of_ble_eq_true rfl, Nat.le_of_ble_eq_true rfl⟩ rfl rfl rfl (As := [.int (0 : Int32), .int ((μ (13, (μ (6, 0) 12).toNatClampNeg - 1) 0) - (1 : Int32))]) (rest := []) rfl rfl (Nat.le_of_ble_eq_true rfl) dX9_readPerson_42 ⟨Nat.zero_le _, Nat.zero_le _⟩ (fun H locs hW => ?_)
            show W p l e (rmq 4 90) s m args below meth c H locs 0 0 Q (F0 m 45 ls [.int x42.1])
            refine lv_if_ne (tgt := 50) hx hb dX9_readPerson_45 (by decide) (fun c7 => ?_) (fun c7 => ?_)
            · have hf := (if_neg c7).symm.trans hf
              refine lv_aload_n hx hb dX9_readPerson_50 rfl (lv_at hl 1 rfl) ?_
              by_cases q8 : x42.2 (6, 0) 12 = 0
              · have hf := (if_pos q8).symm.trans hf
                refine gn_X9_15 C hW q8 dX9_readPerson_51 ?_
                refine lv_iload_n hx hb dX9_readPerson_54 rfl (lv_at hl 0 rfl) ?_
                cases hf
              · have hf := (if_neg q8).symm.trans hf
                refine gf_X9_15 C hW q8 dX9_readPerson_51 ?_
                obtain ⟨hq8, hf⟩ := ce_of hf
                refine lv_iload_n hx hb dX9_readPerson_54 rfl (lv_at hl 0 rfl) ?_
                obtain ⟨x55, h55, hf⟩ := bd_of hf
                refine r_callV (k := ((13, (x42.2 (6, 0) 12).toNatClampNeg - 1) : Ky)) C hW hl lk_X9_72 (c_X6_join hwf hq8 h55) ⟨rfl, rfl⟩ ⟨Nat.le_of_ble_eq_true rfl, Nat.le_of_ble_eq_true rfl⟩ rfl (faB_13 hq8) rfl (As := [.int (μ (6, 0) 10)]) (rest := []) rfl rfl (Nat.le_of_ble_eq_true rfl) dX9_readPerson_55 ⟨Nat.zero_le _, Nat.zero_le _⟩ (fun H locs hW => ?_)
                show W p l e (rmq 4 90) s m args below meth c H locs 0 0 Q (F0 m 58 ls [])
                refine lv_iconst (v := 1) hx hb dX9_readPerson_58 (by decide) ?_
                obtain rfl := Option.some.inj hf
                rw [hQ]
                exact r_zret C hr hk hW (Or.inr rfl) rfl rfl dX9_readPerson_59
            · have hf := (if_pos c7).symm.trans hf
              refine lv_iconst (v := 0) hx hb dX9_readPerson_48 (by decide) ?_
              obtain rfl := Option.some.inj hf
              rw [hQ]
              exact r_zret C hr hk hW (Or.inl rfl) rfl rfl dX9_readPerson_49
        · have hf := (if_pos c5).symm.trans hf
          refine lv_aload_n hx hb dX9_readPerson_20 rfl (lv_at hl 0 rfl) ?_
          refine lv_iload_n hx hb dX9_readPerson_21 rfl (lv_at hl 1 rfl) ?_
          obtain ⟨x22, h22, hf⟩ := bd_of hf
          refine r_callVU (k := ((6, 0) : Ky)) C hW hl lk_X9_26 (c_X8_wrongAt_0 hwf h22) ⟨rfl, rfl⟩ ⟨Nat.le_of_ble_eq_true rfl, Nat.le_of_ble_eq_true rfl⟩ rfl rfl rfl (As := [.int v1]) (rest := []) rfl rfl (Nat.le_of_ble_eq_true rfl) dX9_readPerson_22 ⟨Nat.zero_le _, Nat.zero_le _⟩ (fun H locs hW => ?_)
          show W p l e (rmq 4 90) s m args below meth c H locs 0 0 Q (F0 m 25 ls [.int x22.1])
          obtain ⟨hz9, hf⟩ := cb_of hf
          obtain rfl := Option.some.inj hf
          rw [hQ]
          exact r_zret C hr hk hW hz9 rfl rfl dX9_readPerson_25
set_option maxHeartbeats 4000000 in
set_option maxRecDepth 100000 in
theorem c_X9_readTwo {l : Launch} {D : va_G} {tc : Nat → ClassId} {ro : Ro} {oa : Ky → Nat} {aa : Nat → Nat} {sh : Sh} {ln : Nat → Nat} {μ : Mm} {res : Int32 × Mm} (hwf : WfS sh) (hf : f_X9_readTwo sh ln μ = some res) : Ct l D tc ro (faB oa aa sh) (feB tc oa aa sh ln) yX9_readTwo cX9_readTwo 2 (some .boolean) (rmq 2 43) [.ref (oa (6, 0))] μ (some (.int res.1)) res.2 := by
  refine Ct.of (by decide) (Nat.le_of_ble_eq_true rfl) (fun p e s m args below meth c A C hr hk hW ls hl => ?_)
  have hx := C.1.1
  have hb := C.1.2.1
  obtain ⟨Q, hQ⟩ : ∃ Q, Q = MQ below (Ctq D (faB oa aa sh) (feB tc oa aa sh ln) (some (.int res.1)) res.2 A) args s 0 0 A := ⟨_, rfl⟩
  rw [← hQ]
  have hl : lv_has ls 2 [(0, .ref (oa (6, 0)))] := hl
  unfold f_X9_readTwo at hf
  refine lv_aload_n hx hb dX9_readTwo_0 rfl (lv_at hl 0 rfl) ?_
  refine lv_aload_n hx hb dX9_readTwo_1 rfl (lv_at hl 0 rfl) ?_
  refine gf_X9_59 C hW dX9_readTwo_2 ?_
  refine pf_X9_79 C hW dX9_readTwo_5 (fun H locs hW => ?_)
  refine lv_aload_n hx hb dX9_readTwo_8 rfl (lv_at hl 0 rfl) ?_
  refine lv_iconst (v := 0) hx hb dX9_readTwo_9 (by decide) ?_
  refine lv_aload_n hx hb dX9_readTwo_10 rfl (lv_at hl 0 rfl) ?_
  by_cases q1 : (mst μ (6, 0) 13 (μ (6, 0) 10)) (6, 0) 12 = 0
  · have hf := (if_pos q1).symm.trans hf
    refine gn_X9_15 C hW q1 dX9_readTwo_11 ?_
    cases hf
  · have hf := (if_neg q1).symm.trans hf
    refine gf_X9_15 C hW q1 dX9_readTwo_11 ?_
    obtain ⟨hq1, hf⟩ := ce_of hf
    refine gf_X9_56 C hW hq1 dX9_readTwo_14 ?_
    refine lv_iconst (v := 1) hx hb dX9_readTwo_17 (by decide) ?_
    refine lv_isub hx hb dX9_readTwo_18 ?_
    obtain ⟨x19, h19, hf⟩ := bd_of hf
    refine r_callVU (k := ((6, 0) : Ky)) C hW hl lk_X9_62 (c_X8_takeNumber_0 hwf h19) ⟨rfl, rfl⟩ ⟨Nat.le_of_ble_eq_true rfl, Nat.le_of_ble_eq_true rfl⟩ rfl rfl rfl (As := [.int (0 : Int32), .int (((mst μ (6, 0) 13 (μ (6, 0) 10)) (13, ((mst μ (6, 0) 13 (μ (6, 0) 10)) (6, 0) 12).toNatClampNeg - 1) 1) - (1 : Int32))]) (rest := []) rfl rfl (Nat.le_of_ble_eq_true rfl) dX9_readTwo_19 ⟨Nat.zero_le _, Nat.zero_le _⟩ (fun H locs hW => ?_)
    show W p l e (rmq 2 43) s m args below meth c H locs 0 0 Q (F0 m 22 ls [.int x19.1])
    refine lv_if_ne (tgt := 27) hx hb dX9_readTwo_22 (by decide) (fun c2 => ?_) (fun c2 => ?_)
    · have hf := (if_neg c2).symm.trans hf
      refine lv_aload_n hx hb dX9_readTwo_27 rfl (lv_at hl 0 rfl) ?_
      refine lv_aload_n hx hb dX9_readTwo_28 rfl (lv_at hl 0 rfl) ?_
      refine gf_X9_59 C hW dX9_readTwo_29 ?_
      refine pf_X9_82 C hW dX9_readTwo_32 (fun H locs hW => ?_)
      refine lv_aload_n hx hb dX9_readTwo_35 rfl (lv_at hl 0 rfl) ?_
      refine gf_X9_19 C hW dX9_readTwo_36 ?_
      refine lv_istore_n (lv' := [(1, .int ((mst x19.2 (6, 0) 14 (x19.2 (6, 0) 10)) (6, 0) 9)), (0, .ref (oa (6, 0)))]) hx hb dX9_readTwo_39 rfl hl (by decide) rfl (fun ls hl => ?_)
      refine lv_aload_n hx hb dX9_readTwo_40 rfl (lv_at hl 1 rfl) ?_
      refine lv_iconst (v := 0) hx hb dX9_readTwo_41 (by decide) ?_
      refine lv_aload_n hx hb dX9_readTwo_42 rfl (lv_at hl 1 rfl) ?_
      by_cases q3 : (mst x19.2 (6, 0) 14 (x19.2 (6, 0) 10)) (6, 0) 12 = 0
      · have hf := (if_pos q3).symm.trans hf
        refine gn_X9_15 C hW q3 dX9_readTwo_43 ?_
        cases hf
      · have hf := (if_neg q3).symm.trans hf
        refine gf_X9_15 C hW q3 dX9_readTwo_43 ?_
        obtain ⟨hq3, hf⟩ := ce_of hf
        refine gf_X9_56 C hW hq3 dX9_readTwo_46 ?_
        refine lv_iconst (v := 1) hx hb dX9_readTwo_49 (by decide) ?_
        refine lv_isub hx hb dX9_readTwo_50 ?_
        obtain ⟨x51, h51, hf⟩ := bd_of hf
        refine r_callVU (k := ((6, 0) : Ky)) C hW hl lk_X9_62 (c_X8_takeNumber_0 hwf h51) ⟨rfl, rfl⟩ ⟨Nat.le_of_ble_eq_true rfl, Nat.le_of_ble_eq_true rfl⟩ rfl rfl rfl (As := [.int (0 : Int32), .int (((mst x19.2 (6, 0) 14 (x19.2 (6, 0) 10)) (13, ((mst x19.2 (6, 0) 14 (x19.2 (6, 0) 10)) (6, 0) 12).toNatClampNeg - 1) 1) - (1 : Int32))]) (rest := []) rfl rfl (Nat.le_of_ble_eq_true rfl) dX9_readTwo_51 ⟨Nat.zero_le _, Nat.zero_le _⟩ (fun H locs hW => ?_)
        show W p l e (rmq 2 43) s m args below meth c H locs 0 0 Q (F0 m 54 ls [.int x51.1])
        refine lv_if_eq (tgt := 80) hx hb dX9_readTwo_54 (by decide) (fun c4 => ?_) (fun c4 => ?_)
        · have hf := (if_pos c4).symm.trans hf
          refine lv_iconst (v := 0) hx hb dX9_readTwo_80 (by decide) ?_
          obtain rfl := Option.some.inj hf
          rw [hQ]
          exact r_zret C hr hk hW (Or.inl rfl) rfl rfl dX9_readTwo_81
        · have hf := (if_neg c4).symm.trans hf
          refine lv_aload_n hx hb dX9_readTwo_57 rfl (lv_at hl 1 rfl) ?_
          refine gf_X9_79 C hW dX9_readTwo_58 ?_
          refine lv_aload_n hx hb dX9_readTwo_61 rfl (lv_at hl 1 rfl) ?_
          refine gf_X9_82 C hW dX9_readTwo_62 ?_
          refine lv_icmp_ne (tgt := 76) hx hb dX9_readTwo_65 (by decide) (fun c5 => ?_) (fun c5 => ?_)
          · have hf := (if_neg c5).symm.trans hf
            refine lv_iconst (v := 1) hx hb dX9_readTwo_76 (by decide) ?_
            refine lv_goto (tgt := 81) hx hb dX9_readTwo_77 (by decide) ?_
            obtain rfl := Option.some.inj hf
            rw [hQ]
            exact r_zret C hr hk hW (Or.inr rfl) rfl rfl dX9_readTwo_81
          · have hf := (if_pos c5).symm.trans hf
            refine lv_aload_n hx hb dX9_readTwo_68 rfl (lv_at hl 1 rfl) ?_
            refine lv_iload_n hx hb dX9_readTwo_69 rfl (lv_at hl 0 rfl) ?_
            obtain ⟨x70, h70, hf⟩ := bd_of hf
            refine r_callVU (k := ((6, 0) : Ky)) C hW hl lk_X9_26 (c_X8_wrongAt_0 hwf h70) ⟨rfl, rfl⟩ ⟨Nat.le_of_ble_eq_true rfl, Nat.le_of_ble_eq_true rfl⟩ rfl rfl rfl (As := [.int ((mst x19.2 (6, 0) 14 (x19.2 (6, 0) 10)) (6, 0) 9)]) (rest := []) rfl rfl (Nat.le_of_ble_eq_true rfl) dX9_readTwo_70 ⟨Nat.zero_le _, Nat.zero_le _⟩ (fun H locs hW => ?_)
            show W p l e (rmq 2 43) s m args below meth c H locs 0 0 Q (F0 m 73 ls [.int x70.1])
            refine lv_if_eq (tgt := 80) hx hb dX9_readTwo_73 (by decide) (fun c6 => ?_) (fun c6 => ?_)
            · have hf := (if_pos c6).symm.trans hf
              refine lv_iconst (v := 0) hx hb dX9_readTwo_80 (by decide) ?_
              obtain rfl := Option.some.inj hf
              rw [hQ]
              exact r_zret C hr hk hW (Or.inl rfl) rfl rfl dX9_readTwo_81
            · have hf := (if_neg c6).symm.trans hf
              refine lv_iconst (v := 1) hx hb dX9_readTwo_76 (by decide) ?_
              refine lv_goto (tgt := 81) hx hb dX9_readTwo_77 (by decide) ?_
              obtain rfl := Option.some.inj hf
              rw [hQ]
              exact r_zret C hr hk hW (Or.inr rfl) rfl rfl dX9_readTwo_81
    · have hf := (if_pos c2).symm.trans hf
      refine lv_iconst (v := 0) hx hb dX9_readTwo_25 (by decide) ?_
      obtain rfl := Option.some.inj hf
      rw [hQ]
      exact r_zret C hr hk hW (Or.inl rfl) rfl rfl dX9_readTwo_26
set_option maxHeartbeats 4000000 in
set_option maxRecDepth 100000 in
theorem c_X9_readSees {l : Launch} {D : va_G} {tc : Nat → ClassId} {ro : Ro} {oa : Ky → Nat} {aa : Nat → Nat} {sh : Sh} {ln : Nat → Nat} {μ : Mm} {res : Int32 × Mm} (hwf : WfS sh) (hf : f_X9_readSees sh ln μ = some res) : Ct l D tc ro (faB oa aa sh) (feB tc oa aa sh ln) yX9_readSees cX9_readSees 1 (some .boolean) (rmq 5 117) [.ref (oa (6, 0))] μ (some (.int res.1)) res.2 := by
  refine Ct.of (by decide) (Nat.le_of_ble_eq_true rfl) (fun p e s m args below meth c A C hr hk hW ls hl => ?_)
  have hx := C.1.1
  have hb := C.1.2.1
  obtain ⟨Q, hQ⟩ : ∃ Q, Q = MQ below (Ctq D (faB oa aa sh) (feB tc oa aa sh ln) (some (.int res.1)) res.2 A) args s 0 0 A := ⟨_, rfl⟩
  rw [← hQ]
  have hl : lv_has ls 1 [(0, .ref (oa (6, 0)))] := hl
  unfold f_X9_readSees at hf
  refine lv_aload_n hx hb dX9_readSees_0 rfl (lv_at hl 0 rfl) ?_
  obtain ⟨x1, h1, hf⟩ := bd_of hf
  refine r_callV (k := ((6, 0) : Ky)) C hW hl lk_X9_76 (c_X9_readTwo hwf h1) ⟨rfl, rfl⟩ ⟨Nat.le_of_ble_eq_true rfl, Nat.le_of_ble_eq_true rfl⟩ rfl rfl rfl (As := []) (rest := []) rfl rfl (Nat.le_of_ble_eq_true rfl) dX9_readSees_1 ⟨Nat.zero_le _, Nat.zero_le _⟩ (fun H locs hW => ?_)
  show W p l e (rmq 5 117) s m args below meth c H locs 0 0 Q (F0 m 4 ls [.int x1.1])
  refine lv_if_ne (tgt := 9) hx hb dX9_readSees_4 (by decide) (fun c1 => ?_) (fun c1 => ?_)
  · have hf := (if_neg c1).symm.trans hf
    refine lv_aload_n hx hb dX9_readSees_9 rfl (lv_at hl 0 rfl) ?_
    refine gf_X9_9 C hW dX9_readSees_10 ?_
    refine lv_aload_n hx hb dX9_readSees_13 rfl (lv_at hl 0 rfl) ?_
    by_cases q2 : x1.2 (6, 0) 12 = 0
    · have hf := (if_pos q2).symm.trans hf
      refine gn_X9_15 C hW q2 dX9_readSees_14 ?_
      refine lv_aload_n hx hb dX9_readSees_17 rfl (lv_at hl 0 rfl) ?_
      refine gf_X9_79 C hW dX9_readSees_18 ?_
      refine lv_aload_n hx hb dX9_readSees_21 rfl (lv_at hl 0 rfl) ?_
      refine gf_X9_82 C hW dX9_readSees_22 ?_
      cases hf
    · have hf := (if_neg q2).symm.trans hf
      refine gf_X9_15 C hW q2 dX9_readSees_14 ?_
      obtain ⟨hq2, hf⟩ := ce_of hf
      refine lv_aload_n hx hb dX9_readSees_17 rfl (lv_at hl 0 rfl) ?_
      refine gf_X9_79 C hW dX9_readSees_18 ?_
      refine lv_aload_n hx hb dX9_readSees_21 rfl (lv_at hl 0 rfl) ?_
      refine gf_X9_82 C hW dX9_readSees_22 ?_
      obtain ⟨x25, h25, hf⟩ := bd_of hf
      refine r_callV (k := ((3, 0) : Ky)) C hW hl lk_X9_85 (c_X4_look hwf hq2 h25) ⟨rfl, rfl⟩ ⟨Nat.le_of_ble_eq_true rfl, Nat.le_of_ble_eq_true rfl⟩ rfl rfl rfl (As := [.ref (oa (13, (x1.2 (6, 0) 12).toNatClampNeg - 1)), .int (x1.2 (6, 0) 13), .int (x1.2 (6, 0) 14)]) (rest := []) rfl rfl (Nat.le_of_ble_eq_true rfl) dX9_readSees_25 ⟨Nat.zero_le _, Nat.zero_le _⟩ (fun H locs hW => ?_)
      show W p l e (rmq 5 117) s m args below meth c H locs 0 0 Q (F0 m 28 ls [])
      refine lv_aload_n hx hb dX9_readSees_28 rfl (lv_at hl 0 rfl) ?_
      by_cases q3 : x25 (6, 0) 12 = 0
      · have hf := (if_pos q3).symm.trans hf
        refine gn_X9_15 C hW q3 dX9_readSees_29 ?_
        refine lv_iconst (v := 1) hx hb dX9_readSees_32 (by decide) ?_
        cases hf
      · have hf := (if_neg q3).symm.trans hf
        refine gf_X9_15 C hW q3 dX9_readSees_29 ?_
        obtain ⟨hq3, hf⟩ := ce_of hf
        refine lv_iconst (v := 1) hx hb dX9_readSees_32 (by decide) ?_
        refine pf_X9_50 C hW hq3 rfl rfl dX9_readSees_33 (fun H locs hW => ?_)
        refine lv_iconst (v := 1) hx hb dX9_readSees_36 (by decide) ?_
        obtain rfl := Option.some.inj hf
        rw [hQ]
        exact r_zret C hr hk hW (Or.inr rfl) rfl rfl dX9_readSees_37
  · have hf := (if_pos c1).symm.trans hf
    refine lv_iconst (v := 0) hx hb dX9_readSees_7 (by decide) ?_
    obtain rfl := Option.some.inj hf
    rw [hQ]
    exact r_zret C hr hk hW (Or.inl rfl) rfl rfl dX9_readSees_8
set_option maxHeartbeats 4000000 in
set_option maxRecDepth 100000 in
theorem c_X8_take_0 {l : Launch} {D : va_G} {tc : Nat → ClassId} {ro : Ro} {oa : Ky → Nat} {aa : Nat → Nat} {sh : Sh} {ln : Nat → Nat} {μ : Mm} {v1 : Int32} {res : Int32 × Mm} (hwf : WfS sh) (hf : f_X8_take_0 sh ln μ v1 = some res) : Ct l D tc ro (faB oa aa sh) (feB tc oa aa sh ln) yX8_take cX8_take 2 (some .boolean) (rmq 1 21) [.ref (oa (6, 0)), .int v1] μ (some (.int res.1)) res.2 := by
  refine Ct.of (by decide) (Nat.le_of_ble_eq_true rfl) (fun p e s m args below meth c A C hr hk hW ls hl => ?_)
  have hx := C.1.1
  have hb := C.1.2.1
  obtain ⟨Q, hQ⟩ : ∃ Q, Q = MQ below (Ctq D (faB oa aa sh) (feB tc oa aa sh ln) (some (.int res.1)) res.2 A) args s 0 0 A := ⟨_, rfl⟩
  rw [← hQ]
  have hl : lv_has ls 2 [(0, .ref (oa (6, 0))), (1, .int v1)] := hl
  unfold f_X8_take_0 at hf
  refine lv_aload_n hx hb dX8_take_0 rfl (lv_at hl 0 rfl) ?_
  refine gf_X8_27_0 C hW dX8_take_1 ?_
  refine lv_iload_n hx hb dX8_take_4 rfl (lv_at hl 1 rfl) ?_
  refine lv_icmp_eq (tgt := 17) hx hb dX8_take_5 (by decide) (fun c1 => ?_) (fun c1 => ?_)
  · have hf := (if_pos c1).symm.trans hf
    refine lv_aload_n hx hb dX8_take_17 rfl (lv_at hl 0 rfl) ?_
    obtain ⟨x18, h18, hf⟩ := bd_of hf
    refine r_callVU (k := ((6, 0) : Ky)) C hW hl lk_X8_74_0 (c_X8_step_0 hwf h18) ⟨rfl, rfl⟩ ⟨Nat.le_of_ble_eq_true rfl, Nat.le_of_ble_eq_true rfl⟩ rfl rfl rfl (As := []) (rest := []) rfl rfl (Nat.le_of_ble_eq_true rfl) dX8_take_18 ⟨Nat.zero_le _, Nat.zero_le _⟩ (fun H locs hW => ?_)
    show W p l e (rmq 1 21) s m args below meth c H locs 0 0 Q (F0 m 21 ls [])
    refine lv_iconst (v := 1) hx hb dX8_take_21 (by decide) ?_
    obtain rfl := Option.some.inj hf
    rw [hQ]
    exact r_zret C hr hk hW (Or.inr rfl) rfl rfl dX8_take_22
  · have hf := (if_neg c1).symm.trans hf
    refine lv_aload_n hx hb dX8_take_8 rfl (lv_at hl 0 rfl) ?_
    refine lv_aload_n hx hb dX8_take_9 rfl (lv_at hl 0 rfl) ?_
    refine gf_X8_38_0 C hW dX8_take_10 ?_
    obtain ⟨x13, h13, hf⟩ := bd_of hf
    refine r_callVU (k := ((6, 0) : Ky)) C hW hl lk_X8_41_0 (c_X8_wrongAt_0 hwf h13) ⟨rfl, rfl⟩ ⟨Nat.le_of_ble_eq_true rfl, Nat.le_of_ble_eq_true rfl⟩ rfl rfl rfl (As := [.int (μ (6, 0) 9)]) (rest := []) rfl rfl (Nat.le_of_ble_eq_true rfl) dX8_take_13 ⟨Nat.zero_le _, Nat.zero_le _⟩ (fun H locs hW => ?_)
    show W p l e (rmq 1 21) s m args below meth c H locs 0 0 Q (F0 m 16 ls [.int x13.1])
    obtain ⟨hz2, hf⟩ := cb_of hf
    obtain rfl := Option.some.inj hf
    rw [hQ]
    exact r_zret C hr hk hW hz2 rfl rfl dX8_take_16
set_option maxHeartbeats 4000000 in
set_option maxRecDepth 100000 in
theorem c_X9_tellAll {l : Launch} {D : va_G} {tc : Nat → ClassId} {ro : Ro} {oa : Ky → Nat} {aa : Nat → Nat} {sh : Sh} {ln : Nat → Nat} {μ : Mm} {v1 : Int32} {res : Int32 × Mm} (hwf : WfS sh) (hf : f_X9_tellAll sh ln μ v1 = some res) : Ct l D tc ro (faB oa aa sh) (feB tc oa aa sh ln) yX9_tellAll cX9_tellAll 2 (some .boolean) (rmq 2 47) [.ref (oa (6, 0)), .int v1] μ (some (.int res.1)) res.2 := by
  refine Ct.of (by decide) (Nat.le_of_ble_eq_true rfl) (fun p e s m args below meth c A C hr hk hW ls hl => ?_)
  have hx := C.1.1
  have hb := C.1.2.1
  obtain ⟨Q, hQ⟩ : ∃ Q, Q = MQ below (Ctq D (faB oa aa sh) (feB tc oa aa sh ln) (some (.int res.1)) res.2 A) args s 0 0 A := ⟨_, rfl⟩
  rw [← hQ]
  have hl : lv_has ls 2 [(0, .ref (oa (6, 0))), (1, .int v1)] := hl
  unfold f_X9_tellAll at hf
  refine lv_aload_n hx hb dX9_tellAll_0 rfl (lv_at hl 0 rfl) ?_
  refine gf_X9_9 C hW dX9_tellAll_1 ?_
  refine lv_aload_n hx hb dX9_tellAll_4 rfl (lv_at hl 0 rfl) ?_
  by_cases q1 : μ (6, 0) 12 = 0
  · have hf := (if_pos q1).symm.trans hf
    refine gn_X9_15 C hW q1 dX9_tellAll_5 ?_
    cases hf
  · have hf := (if_neg q1).symm.trans hf
    refine gf_X9_15 C hW q1 dX9_tellAll_5 ?_
    obtain ⟨hq1, hf⟩ := ce_of hf
    refine gf_X9_104 C hW hq1 dX9_tellAll_8 ?_
    obtain ⟨x11, h11, hf⟩ := bd_of hf
    refine r_callV (k := ((3, 0) : Ky)) C hW hl lk_X9_107 (c_X4_saidIn hwf h11) ⟨rfl, rfl⟩ ⟨Nat.le_of_ble_eq_true rfl, Nat.le_of_ble_eq_true rfl⟩ rfl rfl rfl (As := [.int (μ (13, (μ (6, 0) 12).toNatClampNeg - 1) 3)]) (rest := []) rfl rfl (Nat.le_of_ble_eq_true rfl) dX9_tellAll_11 ⟨Nat.zero_le _, Nat.zero_le _⟩ (fun H locs hW => ?_)
    show W p l e (rmq 2 47) s m args below meth c H locs 0 0 Q (F0 m 14 ls [.int x11])
    refine lv_if_ne (tgt := 23) hx hb dX9_tellAll_14 (by decide) (fun c2 => ?_) (fun c2 => ?_)
    · have hf := (if_neg c2).symm.trans hf
      refine lv_aload_n hx hb dX9_tellAll_23 rfl (lv_at hl 0 rfl) ?_
      refine gf_X9_9 C hW dX9_tellAll_24 ?_
      refine lv_aload_n hx hb dX9_tellAll_27 rfl (lv_at hl 0 rfl) ?_
      by_cases q3 : μ (6, 0) 12 = 0
      · have hf := (if_pos q3).symm.trans hf
        refine gn_X9_15 C hW q3 dX9_tellAll_28 ?_
        refine lv_aload_n hx hb dX9_tellAll_31 rfl (lv_at hl 0 rfl) ?_
        by_cases q4 : μ (6, 0) 12 = 0
        · have hf := (if_pos q4).symm.trans hf
          refine gn_X9_15 C hW q4 dX9_tellAll_32 ?_
          cases hf
        · have hf := (if_neg q4).symm.trans hf
          refine gf_X9_15 C hW q4 dX9_tellAll_32 ?_
          obtain ⟨hq4, hf⟩ := ce_of hf
          refine gf_X9_111 C hW hq4 dX9_tellAll_35 ?_
          cases hf
      · have hf := (if_neg q3).symm.trans hf
        refine gf_X9_15 C hW q3 dX9_tellAll_28 ?_
        obtain ⟨hq3, hf⟩ := ce_of hf
        refine lv_aload_n hx hb dX9_tellAll_31 rfl (lv_at hl 0 rfl) ?_
        by_cases q5 : μ (6, 0) 12 = 0
        · have hf := (if_pos q5).symm.trans hf
          refine gn_X9_15 C hW q5 dX9_tellAll_32 ?_
          cases hf
        · have hf := (if_neg q5).symm.trans hf
          refine gf_X9_15 C hW q5 dX9_tellAll_32 ?_
          obtain ⟨hq5, hf⟩ := ce_of hf
          refine gf_X9_111 C hW hq5 dX9_tellAll_35 ?_
          obtain ⟨x38, h38, hf⟩ := bd_of hf
          refine r_callV (k := ((3, 0) : Ky)) C hW hl lk_X9_115 (c_X4_heed hwf hq3 (cex_st hq5 (by decide)) h38) ⟨rfl, rfl⟩ ⟨Nat.le_of_ble_eq_true rfl, Nat.le_of_ble_eq_true rfl⟩ rfl rfl rfl (As := [.ref (oa (13, (μ (6, 0) 12).toNatClampNeg - 1)), .ref (oa (11, 15 + 5 * ((μ (6, 0) 12).toNatClampNeg - 1) + 2))]) (rest := []) rfl rfl (Nat.le_of_ble_eq_true rfl) dX9_tellAll_38 ⟨Nat.zero_le _, Nat.zero_le _⟩ (fun H locs hW => ?_)
          show W p l e (rmq 2 47) s m args below meth c H locs 0 0 Q (F0 m 41 ls [.int x38.1])
          refine lv_pop hx hb dX9_tellAll_41 rfl ?_
          refine lv_aload_n hx hb dX9_tellAll_42 rfl (lv_at hl 0 rfl) ?_
          by_cases q6 : x38.2 (6, 0) 12 = 0
          · have hf := (if_pos q6).symm.trans hf
            refine gn_X9_15 C hW q6 dX9_tellAll_43 ?_
            refine lv_iconst (v := 1) hx hb dX9_tellAll_46 (by decide) ?_
            cases hf
          · have hf := (if_neg q6).symm.trans hf
            refine gf_X9_15 C hW q6 dX9_tellAll_43 ?_
            obtain ⟨hq6, hf⟩ := ce_of hf
            refine lv_iconst (v := 1) hx hb dX9_tellAll_46 (by decide) ?_
            refine pf_X9_50 C hW hq6 rfl rfl dX9_tellAll_47 (fun H locs hW => ?_)
            refine lv_iconst (v := 1) hx hb dX9_tellAll_50 (by decide) ?_
            obtain rfl := Option.some.inj hf
            rw [hQ]
            exact r_zret C hr hk hW (Or.inr rfl) rfl rfl dX9_tellAll_51
    · have hf := (if_pos c2).symm.trans hf
      refine lv_aload_n hx hb dX9_tellAll_17 rfl (lv_at hl 0 rfl) ?_
      refine lv_iload_n hx hb dX9_tellAll_18 rfl (lv_at hl 1 rfl) ?_
      obtain ⟨x19, h19, hf⟩ := bd_of hf
      refine r_callVU (k := ((6, 0) : Ky)) C hW hl lk_X9_26 (c_X8_wrongAt_0 hwf h19) ⟨rfl, rfl⟩ ⟨Nat.le_of_ble_eq_true rfl, Nat.le_of_ble_eq_true rfl⟩ rfl rfl rfl (As := [.int v1]) (rest := []) rfl rfl (Nat.le_of_ble_eq_true rfl) dX9_tellAll_19 ⟨Nat.zero_le _, Nat.zero_le _⟩ (fun H locs hW => ?_)
      show W p l e (rmq 2 47) s m args below meth c H locs 0 0 Q (F0 m 22 ls [.int x19.1])
      obtain ⟨hz7, hf⟩ := cb_of hf
      obtain rfl := Option.some.inj hf
      rw [hQ]
      exact r_zret C hr hk hW hz7 rfl rfl dX9_tellAll_22
set_option maxHeartbeats 4000000 in
set_option maxRecDepth 100000 in
theorem c_X9_readLimit {l : Launch} {D : va_G} {tc : Nat → ClassId} {ro : Ro} {oa : Ky → Nat} {aa : Nat → Nat} {sh : Sh} {ln : Nat → Nat} {μ : Mm} {v1 v2 : Int32} {res : Int32 × Mm} (hwf : WfS sh) (hf : f_X9_readLimit sh ln μ v1 v2 = some res) : Ct l D tc ro (faB oa aa sh) (feB tc oa aa sh ln) yX9_readLimit cX9_readLimit 5 (some .boolean) (rmq 4 94) [.ref (oa (6, 0)), .int v1, .int v2] μ (some (.int res.1)) res.2 := by
  refine Ct.of (by decide) (Nat.le_of_ble_eq_true rfl) (fun p e s m args below meth c A C hr hk hW ls hl => ?_)
  have hx := C.1.1
  have hb := C.1.2.1
  obtain ⟨Q, hQ⟩ : ∃ Q, Q = MQ below (Ctq D (faB oa aa sh) (feB tc oa aa sh ln) (some (.int res.1)) res.2 A) args s 0 0 A := ⟨_, rfl⟩
  rw [← hQ]
  have hl : lv_has ls 5 [(0, .ref (oa (6, 0))), (1, .int v1), (2, .int v2)] := hl
  unfold f_X9_readLimit at hf
  refine lv_aload_n hx hb dX9_readLimit_0 rfl (lv_at hl 0 rfl) ?_
  refine gf_X9_59 C hW dX9_readLimit_1 ?_
  refine lv_istore_n (lv' := [(3, .int (μ (6, 0) 10)), (0, .ref (oa (6, 0))), (1, .int v1), (2, .int v2)]) hx hb dX9_readLimit_4 rfl hl (by decide) rfl (fun ls hl => ?_)
  refine lv_aload_n hx hb dX9_readLimit_5 rfl (lv_at hl 1 rfl) ?_
  refine lv_iconst (v := 0) hx hb dX9_readLimit_6 (by decide) ?_
  refine lv_bipush (v := 9) hx hb dX9_readLimit_7 (by decide) ?_
  obtain ⟨x9, h9, hf⟩ := bd_of hf
  refine r_callVU (k := ((6, 0) : Ky)) C hW hl lk_X9_62 (c_X8_takeNumber_0 hwf h9) ⟨rfl, rfl⟩ ⟨Nat.le_of_ble_eq_true rfl, Nat.le_of_ble_eq_true rfl⟩ rfl rfl rfl (As := [.int (0 : Int32), .int (9 : Int32)]) (rest := []) rfl rfl (Nat.le_of_ble_eq_true rfl) dX9_readLimit_9 ⟨Nat.zero_le _, Nat.zero_le _⟩ (fun H locs hW => ?_)
  show W p l e (rmq 4 94) s m args below meth c H locs 0 0 Q (F0 m 12 ls [.int x9.1])
  refine lv_if_eq (tgt := 25) hx hb dX9_readLimit_12 (by decide) (fun c1 => ?_) (fun c1 => ?_)
  · have hf := (if_pos c1).symm.trans hf
    refine lv_iconst (v := 0) hx hb dX9_readLimit_25 (by decide) ?_
    obtain rfl := Option.some.inj hf
    rw [hQ]
    exact r_zret C hr hk hW (Or.inl rfl) rfl rfl dX9_readLimit_26
  · have hf := (if_neg c1).symm.trans hf
    refine lv_aload_n hx hb dX9_readLimit_15 rfl (lv_at hl 1 rfl) ?_
    refine lv_sipush (v := 306) hx hb dX9_readLimit_16 (by decide) ?_
    obtain ⟨x19, h19, hf⟩ := bd_of hf
    refine r_callVU (k := ((6, 0) : Ky)) C hW hl lk_X9_91 (c_X8_take_0 hwf h19) ⟨rfl, rfl⟩ ⟨Nat.le_of_ble_eq_true rfl, Nat.le_of_ble_eq_true rfl⟩ rfl rfl rfl (As := [.int (306 : Int32)]) (rest := []) rfl rfl (Nat.le_of_ble_eq_true rfl) dX9_readLimit_19 ⟨Nat.zero_le _, Nat.zero_le _⟩ (fun H locs hW => ?_)
    show W p l e (rmq 4 94) s m args below meth c H locs 0 0 Q (F0 m 22 ls [.int x19.1])
    refine lv_if_ne (tgt := 27) hx hb dX9_readLimit_22 (by decide) (fun c2 => ?_) (fun c2 => ?_)
    · have hf := (if_neg c2).symm.trans hf
      refine lv_aload_n hx hb dX9_readLimit_27 rfl (lv_at hl 1 rfl) ?_
      refine gf_X9_59 C hW dX9_readLimit_28 ?_
      refine lv_istore (lv' := [(4, .int (x19.2 (6, 0) 10)), (3, .int (μ (6, 0) 10)), (0, .ref (oa (6, 0))), (1, .int v1), (2, .int v2)]) hx hb dX9_readLimit_31 hl (by decide) rfl (fun ls hl => ?_)
      refine lv_aload_n hx hb dX9_readLimit_33 rfl (lv_at hl 2 rfl) ?_
      refine lv_iconst (v := 0) hx hb dX9_readLimit_34 (by decide) ?_
      refine lv_aload_n hx hb dX9_readLimit_35 rfl (lv_at hl 2 rfl) ?_
      by_cases q3 : x19.2 (6, 0) 12 = 0
      · have hf := (if_pos q3).symm.trans hf
        refine gn_X9_15 C hW q3 dX9_readLimit_36 ?_
        cases hf
      · have hf := (if_neg q3).symm.trans hf
        refine gf_X9_15 C hW q3 dX9_readLimit_36 ?_
        obtain ⟨hq3, hf⟩ := ce_of hf
        refine gf_X9_66 C hW hq3 dX9_readLimit_39 ?_
        refine lv_iconst (v := 1) hx hb dX9_readLimit_42 (by decide) ?_
        refine lv_isub hx hb dX9_readLimit_43 ?_
        obtain ⟨x44, h44, hf⟩ := bd_of hf
        refine r_callVU (k := ((6, 0) : Ky)) C hW hl lk_X9_62 (c_X8_takeNumber_0 hwf h44) ⟨rfl, rfl⟩ ⟨Nat.le_of_ble_eq_true rfl, Nat.le_of_ble_eq_true rfl⟩ rfl rfl rfl (As := [.int (0 : Int32), .int ((x19.2 (13, (x19.2 (6, 0) 12).toNatClampNeg - 1) 0) - (1 : Int32))]) (rest := []) rfl rfl (Nat.le_of_ble_eq_true rfl) dX9_readLimit_44 ⟨Nat.zero_le _, Nat.zero_le _⟩ (fun H locs hW => ?_)
        show W p l e (rmq 4 94) s m args below meth c H locs 0 0 Q (F0 m 47 ls [.int x44.1])
        refine lv_if_ne (tgt := 52) hx hb dX9_readLimit_47 (by decide) (fun c4 => ?_) (fun c4 => ?_)
        · have hf := (if_neg c4).symm.trans hf
          refine lv_aload_n hx hb dX9_readLimit_52 rfl (lv_at hl 2 rfl) ?_
          refine gf_X9_9 C hW dX9_readLimit_53 ?_
          refine lv_aload_n hx hb dX9_readLimit_56 rfl (lv_at hl 2 rfl) ?_
          by_cases q5 : x44.2 (6, 0) 12 = 0
          · have hf := (if_pos q5).symm.trans hf
            refine gn_X9_15 C hW q5 dX9_readLimit_57 ?_
            refine lv_iload_n hx hb dX9_readLimit_60 rfl (lv_at hl 1 rfl) ?_
            refine lv_iload hx hb dX9_readLimit_61 (lv_at hl 0 rfl) ?_
            refine lv_iload_n hx hb dX9_readLimit_63 rfl (lv_at hl 4 rfl) ?_
            cases hf
          · have hf := (if_neg q5).symm.trans hf
            refine gf_X9_15 C hW q5 dX9_readLimit_57 ?_
            obtain ⟨hq5, hf⟩ := ce_of hf
            refine lv_iload_n hx hb dX9_readLimit_60 rfl (lv_at hl 1 rfl) ?_
            refine lv_iload hx hb dX9_readLimit_61 (lv_at hl 0 rfl) ?_
            refine lv_iload_n hx hb dX9_readLimit_63 rfl (lv_at hl 4 rfl) ?_
            obtain ⟨x64, h64, hf⟩ := bd_of hf
            refine r_callV (k := ((3, 0) : Ky)) C hW hl lk_X9_94 (c_X4_sayWhetherMany hwf hq5 h64) ⟨rfl, rfl⟩ ⟨Nat.le_of_ble_eq_true rfl, Nat.le_of_ble_eq_true rfl⟩ rfl rfl rfl (As := [.ref (oa (13, (x44.2 (6, 0) 12).toNatClampNeg - 1)), .int (μ (6, 0) 10), .int (x19.2 (6, 0) 10), .int v2]) (rest := []) rfl rfl (Nat.le_of_ble_eq_true rfl) dX9_readLimit_64 ⟨Nat.zero_le _, Nat.zero_le _⟩ (fun H locs hW => ?_)
            show W p l e (rmq 4 94) s m args below meth c H locs 0 0 Q (F0 m 67 ls [])
            refine lv_aload_n hx hb dX9_readLimit_67 rfl (lv_at hl 2 rfl) ?_
            refine lv_iload_n hx hb dX9_readLimit_68 rfl (lv_at hl 3 rfl) ?_
            obtain ⟨x69, h69, hf⟩ := bd_of hf
            refine r_callV (k := ((6, 0) : Ky)) C hW hl lk_X9_98 (c_X9_tellAll hwf h69) ⟨rfl, rfl⟩ ⟨Nat.le_of_ble_eq_true rfl, Nat.le_of_ble_eq_true rfl⟩ rfl rfl rfl (As := [.int v1]) (rest := []) rfl rfl (Nat.le_of_ble_eq_true rfl) dX9_readLimit_69 ⟨Nat.zero_le _, Nat.zero_le _⟩ (fun H locs hW => ?_)
            show W p l e (rmq 4 94) s m args below meth c H locs 0 0 Q (F0 m 72 ls [.int x69.1])
            obtain ⟨hz6, hf⟩ := cb_of hf
            obtain rfl := Option.some.inj hf
            rw [hQ]
            exact r_zret C hr hk hW hz6 rfl rfl dX9_readLimit_72
        · have hf := (if_pos c4).symm.trans hf
          refine lv_iconst (v := 0) hx hb dX9_readLimit_50 (by decide) ?_
          obtain rfl := Option.some.inj hf
          rw [hQ]
          exact r_zret C hr hk hW (Or.inl rfl) rfl rfl dX9_readLimit_51
    · have hf := (if_pos c2).symm.trans hf
      refine lv_iconst (v := 0) hx hb dX9_readLimit_25 (by decide) ?_
      obtain rfl := Option.some.inj hf
      rw [hQ]
      exact r_zret C hr hk hW (Or.inl rfl) rfl rfl dX9_readLimit_26
set_option maxHeartbeats 4000000 in
set_option maxRecDepth 100000 in
theorem c_X9_readMatch {l : Launch} {D : va_G} {tc : Nat → ClassId} {ro : Ro} {oa : Ky → Nat} {aa : Nat → Nat} {sh : Sh} {ln : Nat → Nat} {μ : Mm} {v1 v2 : Int32} {res : Int32 × Mm} (hwf : WfS sh) (hf : f_X9_readMatch sh ln μ v1 v2 = some res) : Ct l D tc ro (faB oa aa sh) (feB tc oa aa sh ln) yX9_readMatch cX9_readMatch 3 (some .boolean) (rmq 3 69) [.ref (oa (6, 0)), .int v1, .int v2] μ (some (.int res.1)) res.2 := by
  refine Ct.of (by decide) (Nat.le_of_ble_eq_true rfl) (fun p e s m args below meth c A C hr hk hW ls hl => ?_)
  have hx := C.1.1
  have hb := C.1.2.1
  obtain ⟨Q, hQ⟩ : ∃ Q, Q = MQ below (Ctq D (faB oa aa sh) (feB tc oa aa sh ln) (some (.int res.1)) res.2 A) args s 0 0 A := ⟨_, rfl⟩
  rw [← hQ]
  have hl : lv_has ls 3 [(0, .ref (oa (6, 0))), (1, .int v1), (2, .int v2)] := hl
  unfold f_X9_readMatch at hf
  refine lv_aload_n hx hb dX9_readMatch_0 rfl (lv_at hl 0 rfl) ?_
  obtain ⟨x1, h1, hf⟩ := bd_of hf
  refine r_callV (k := ((6, 0) : Ky)) C hW hl lk_X9_76 (c_X9_readTwo hwf h1) ⟨rfl, rfl⟩ ⟨Nat.le_of_ble_eq_true rfl, Nat.le_of_ble_eq_true rfl⟩ rfl rfl rfl (As := []) (rest := []) rfl rfl (Nat.le_of_ble_eq_true rfl) dX9_readMatch_1 ⟨Nat.zero_le _, Nat.zero_le _⟩ (fun H locs hW => ?_)
  show W p l e (rmq 3 69) s m args below meth c H locs 0 0 Q (F0 m 4 ls [.int x1.1])
  refine lv_if_ne (tgt := 9) hx hb dX9_readMatch_4 (by decide) (fun c1 => ?_) (fun c1 => ?_)
  · have hf := (if_neg c1).symm.trans hf
    refine lv_aload_n hx hb dX9_readMatch_9 rfl (lv_at hl 0 rfl) ?_
    refine gf_X9_9 C hW dX9_readMatch_10 ?_
    refine lv_aload_n hx hb dX9_readMatch_13 rfl (lv_at hl 0 rfl) ?_
    by_cases q2 : x1.2 (6, 0) 12 = 0
    · have hf := (if_pos q2).symm.trans hf
      refine gn_X9_15 C hW q2 dX9_readMatch_14 ?_
      refine lv_aload_n hx hb dX9_readMatch_17 rfl (lv_at hl 0 rfl) ?_
      refine gf_X9_79 C hW dX9_readMatch_18 ?_
      refine lv_aload_n hx hb dX9_readMatch_21 rfl (lv_at hl 0 rfl) ?_
      refine gf_X9_82 C hW dX9_readMatch_22 ?_
      refine lv_iload_n hx hb dX9_readMatch_25 rfl (lv_at hl 2 rfl) ?_
      cases hf
    · have hf := (if_neg q2).symm.trans hf
      refine gf_X9_15 C hW q2 dX9_readMatch_14 ?_
      obtain ⟨hq2, hf⟩ := ce_of hf
      refine lv_aload_n hx hb dX9_readMatch_17 rfl (lv_at hl 0 rfl) ?_
      refine gf_X9_79 C hW dX9_readMatch_18 ?_
      refine lv_aload_n hx hb dX9_readMatch_21 rfl (lv_at hl 0 rfl) ?_
      refine gf_X9_82 C hW dX9_readMatch_22 ?_
      refine lv_iload_n hx hb dX9_readMatch_25 rfl (lv_at hl 2 rfl) ?_
      obtain ⟨x26, h26, hf⟩ := bd_of hf
      refine r_callV (k := ((3, 0) : Ky)) C hW hl lk_X9_101 (c_X4_sayWhetherAlike hwf hq2 h26) ⟨rfl, rfl⟩ ⟨Nat.le_of_ble_eq_true rfl, Nat.le_of_ble_eq_true rfl⟩ rfl rfl rfl (As := [.ref (oa (13, (x1.2 (6, 0) 12).toNatClampNeg - 1)), .int (x1.2 (6, 0) 13), .int (x1.2 (6, 0) 14), .int v2]) (rest := []) rfl rfl (Nat.le_of_ble_eq_true rfl) dX9_readMatch_26 ⟨Nat.zero_le _, Nat.zero_le _⟩ (fun H locs hW => ?_)
      show W p l e (rmq 3 69) s m args below meth c H locs 0 0 Q (F0 m 29 ls [])
      refine lv_aload_n hx hb dX9_readMatch_29 rfl (lv_at hl 0 rfl) ?_
      refine lv_iload_n hx hb dX9_readMatch_30 rfl (lv_at hl 1 rfl) ?_
      obtain ⟨x31, h31, hf⟩ := bd_of hf
      refine r_callV (k := ((6, 0) : Ky)) C hW hl lk_X9_98 (c_X9_tellAll hwf h31) ⟨rfl, rfl⟩ ⟨Nat.le_of_ble_eq_true rfl, Nat.le_of_ble_eq_true rfl⟩ rfl rfl rfl (As := [.int v1]) (rest := []) rfl rfl (Nat.le_of_ble_eq_true rfl) dX9_readMatch_31 ⟨Nat.zero_le _, Nat.zero_le _⟩ (fun H locs hW => ?_)
      show W p l e (rmq 3 69) s m args below meth c H locs 0 0 Q (F0 m 34 ls [.int x31.1])
      obtain ⟨hz3, hf⟩ := cb_of hf
      obtain rfl := Option.some.inj hf
      rw [hQ]
      exact r_zret C hr hk hW hz3 rfl rfl dX9_readMatch_34
  · have hf := (if_pos c1).symm.trans hf
    refine lv_iconst (v := 0) hx hb dX9_readMatch_7 (by decide) ?_
    obtain rfl := Option.some.inj hf
    rw [hQ]
    exact r_zret C hr hk hW (Or.inl rfl) rfl rfl dX9_readMatch_8
set_option maxHeartbeats 4000000 in
set_option maxRecDepth 100000 in
theorem c_X9_readLine {l : Launch} {D : va_G} {tc : Nat → ClassId} {ro : Ro} {oa : Ky → Nat} {aa : Nat → Nat} {sh : Sh} {ln : Nat → Nat} {μ : Mm} {res : Int32 × Mm} (hwf : WfS sh) (hf : f_X9_readLine sh ln μ = some res) : Ct l D tc ro (faB oa aa sh) (feB tc oa aa sh ln) yX9_readLine cX9_readLine 3 (some .boolean) (rmq 6 137) [.ref (oa (6, 0))] μ (some (.int res.1)) res.2 := by
  refine Ct.of (by decide) (Nat.le_of_ble_eq_true rfl) (fun p e s m args below meth c A C hr hk hW ls hl => ?_)
  have hx := C.1.1
  have hb := C.1.2.1
  obtain ⟨Q, hQ⟩ : ∃ Q, Q = MQ below (Ctq D (faB oa aa sh) (feB tc oa aa sh ln) (some (.int res.1)) res.2 A) args s 0 0 A := ⟨_, rfl⟩
  rw [← hQ]
  have hl : lv_has ls 3 [(0, .ref (oa (6, 0)))] := hl
  unfold f_X9_readLine at hf
  refine lv_aload_n hx hb dX9_readLine_0 rfl (lv_at hl 0 rfl) ?_
  refine gf_X9_19 C hW dX9_readLine_1 ?_
  refine lv_istore_n (lv' := [(1, .int (μ (6, 0) 9)), (0, .ref (oa (6, 0)))]) hx hb dX9_readLine_4 rfl hl (by decide) rfl (fun ls hl => ?_)
  refine lv_aload_n hx hb dX9_readLine_5 rfl (lv_at hl 1 rfl) ?_
  refine gf_X9_23 C hW dX9_readLine_6 ?_
  refine lv_istore_n (lv' := [(2, .int (μ (6, 0) 8)), (1, .int (μ (6, 0) 9)), (0, .ref (oa (6, 0)))]) hx hb dX9_readLine_9 rfl hl (by decide) rfl (fun ls hl => ?_)
  refine lv_aload_n hx hb dX9_readLine_10 rfl (lv_at hl 2 rfl) ?_
  by_cases q1 : μ (6, 0) 12 = 0
  · have hf := (if_pos q1).symm.trans hf
    refine gn_X9_15 C hW q1 dX9_readLine_11 ?_
    refine lv_ifnullN (tgt := 24) hx hb dX9_readLine_14 (by decide) ?_
    refine lv_aload_n hx hb dX9_readLine_24 rfl (lv_at hl 2 rfl) ?_
    refine lv_iload_n hx hb dX9_readLine_25 rfl (lv_at hl 1 rfl) ?_
    obtain ⟨x26, h26, hf⟩ := bd_of hf
    refine r_callVU (k := ((6, 0) : Ky)) C hW hl lk_X9_26 (c_X8_wrongAt_0 hwf h26) ⟨rfl, rfl⟩ ⟨Nat.le_of_ble_eq_true rfl, Nat.le_of_ble_eq_true rfl⟩ rfl rfl rfl (As := [.int (μ (6, 0) 9)]) (rest := []) rfl rfl (Nat.le_of_ble_eq_true rfl) dX9_readLine_26 ⟨Nat.zero_le _, Nat.zero_le _⟩ (fun H locs hW => ?_)
    show W p l e (rmq 6 137) s m args below meth c H locs 0 0 Q (F0 m 29 ls [.int x26.1])
    obtain ⟨hz2, hf⟩ := cb_of hf
    obtain rfl := Option.some.inj hf
    rw [hQ]
    exact r_zret C hr hk hW hz2 rfl rfl dX9_readLine_29
  · have hf := (if_neg q1).symm.trans hf
    refine gf_X9_15 C hW q1 dX9_readLine_11 ?_
    obtain ⟨hq1, hf⟩ := ce_of hf
    refine lv_ifnull hx hb dX9_readLine_14 ?_
    refine lv_iload_n hx hb dX9_readLine_17 rfl (lv_at hl 0 rfl) ?_
    refine lv_sipush (v := 301) hx hb dX9_readLine_18 (by decide) ?_
    refine lv_icmp_ge (tgt := 30) hx hb dX9_readLine_21 (by decide) (fun c3 => ?_) (fun c3 => ?_)
    · have hf := (if_pos c3).symm.trans hf
      refine lv_aload_n hx hb dX9_readLine_30 rfl (lv_at hl 2 rfl) ?_
      obtain ⟨x31, h31, hf⟩ := bd_of hf
      refine r_callVU (k := ((6, 0) : Ky)) C hW hl lk_X9_30 (c_X8_step_0 hwf h31) ⟨rfl, rfl⟩ ⟨Nat.le_of_ble_eq_true rfl, Nat.le_of_ble_eq_true rfl⟩ rfl rfl rfl (As := []) (rest := []) rfl rfl (Nat.le_of_ble_eq_true rfl) dX9_readLine_31 ⟨Nat.zero_le _, Nat.zero_le _⟩ (fun H locs hW => ?_)
      show W p l e (rmq 6 137) s m args below meth c H locs 0 0 Q (F0 m 34 ls [])
      refine lv_iload_n hx hb dX9_readLine_34 rfl (lv_at hl 0 rfl) ?_
      by_cases c5 : (μ (6, 0) 8) = (301 : Int32)
      · have hf := (if_pos c5).symm.trans hf
        refine lv_tableIn (off := 45) (tgt := 80) hx hb dX9_readLine_35 (by rw [c5]; decide) (by rw [c5]; decide) (by rw [c5]; rfl) (by decide) ?_
        refine lv_aload_n hx hb dX9_readLine_80 rfl (lv_at hl 2 rfl) ?_
        refine lv_iload_n hx hb dX9_readLine_81 rfl (lv_at hl 1 rfl) ?_
        obtain ⟨x82, h82, hf⟩ := bd_of hf
        refine r_callV (k := ((6, 0) : Ky)) C hW hl lk_X9_33 (c_X9_readValues hwf h82) ⟨rfl, rfl⟩ ⟨Nat.le_of_ble_eq_true rfl, Nat.le_of_ble_eq_true rfl⟩ rfl rfl rfl (As := [.int (μ (6, 0) 9)]) (rest := []) rfl rfl (Nat.le_of_ble_eq_true rfl) dX9_readLine_82 ⟨Nat.zero_le _, Nat.zero_le _⟩ (fun H locs hW => ?_)
        show W p l e (rmq 6 137) s m args below meth c H locs 0 0 Q (F0 m 85 ls [.int x82.1])
        obtain ⟨hz6, hf⟩ := cb_of hf
        obtain rfl := Option.some.inj hf
        rw [hQ]
        exact r_zret C hr hk hW hz6 rfl rfl dX9_readLine_85
      · have hf := (if_neg c5).symm.trans hf
        have n5 := lv_neT c5 (a := 301) (by decide)
        by_cases c7 : (μ (6, 0) 8) = (302 : Int32)
        · have hf := (if_pos c7).symm.trans hf
          refine lv_tableIn (off := 51) (tgt := 86) hx hb dX9_readLine_35 (by rw [c7]; decide) (by rw [c7]; decide) (by rw [c7]; rfl) (by decide) ?_
          refine lv_aload_n hx hb dX9_readLine_86 rfl (lv_at hl 2 rfl) ?_
          refine lv_iload_n hx hb dX9_readLine_87 rfl (lv_at hl 1 rfl) ?_
          obtain ⟨x88, h88, hf⟩ := bd_of hf
          refine r_callV (k := ((6, 0) : Ky)) C hW hl lk_X9_36 (c_X9_readPerson hwf h88) ⟨rfl, rfl⟩ ⟨Nat.le_of_ble_eq_true rfl, Nat.le_of_ble_eq_true rfl⟩ rfl rfl rfl (As := [.int (μ (6, 0) 9)]) (rest := []) rfl rfl (Nat.le_of_ble_eq_true rfl) dX9_readLine_88 ⟨Nat.zero_le _, Nat.zero_le _⟩ (fun H locs hW => ?_)
          show W p l e (rmq 6 137) s m args below meth c H locs 0 0 Q (F0 m 91 ls [.int x88.1])
          obtain ⟨hz8, hf⟩ := cb_of hf
          obtain rfl := Option.some.inj hf
          rw [hQ]
          exact r_zret C hr hk hW hz8 rfl rfl dX9_readLine_91
        · have hf := (if_neg c7).symm.trans hf
          have n7 := lv_neT c7 (a := 302) (by decide)
          by_cases c9 : (μ (6, 0) 8) = (303 : Int32)
          · have hf := (if_pos c9).symm.trans hf
            refine lv_tableIn (off := 57) (tgt := 92) hx hb dX9_readLine_35 (by rw [c9]; decide) (by rw [c9]; decide) (by rw [c9]; rfl) (by decide) ?_
            refine lv_aload_n hx hb dX9_readLine_92 rfl (lv_at hl 2 rfl) ?_
            obtain ⟨x93, h93, hf⟩ := bd_of hf
            refine r_callV (k := ((6, 0) : Ky)) C hW hl lk_X9_39 (c_X9_readSees hwf h93) ⟨rfl, rfl⟩ ⟨Nat.le_of_ble_eq_true rfl, Nat.le_of_ble_eq_true rfl⟩ rfl rfl rfl (As := []) (rest := []) rfl rfl (Nat.le_of_ble_eq_true rfl) dX9_readLine_93 ⟨Nat.zero_le _, Nat.zero_le _⟩ (fun H locs hW => ?_)
            show W p l e (rmq 6 137) s m args below meth c H locs 0 0 Q (F0 m 96 ls [.int x93.1])
            obtain ⟨hz10, hf⟩ := cb_of hf
            obtain rfl := Option.some.inj hf
            rw [hQ]
            exact r_zret C hr hk hW hz10 rfl rfl dX9_readLine_96
          · have hf := (if_neg c9).symm.trans hf
            have n9 := lv_neT c9 (a := 303) (by decide)
            by_cases c11 : (μ (6, 0) 8) = (304 : Int32)
            · have hf := (if_pos c11).symm.trans hf
              refine lv_tableIn (off := 62) (tgt := 97) hx hb dX9_readLine_35 (by rw [c11]; decide) (by rw [c11]; decide) (by rw [c11]; rfl) (by decide) ?_
              refine lv_aload_n hx hb dX9_readLine_97 rfl (lv_at hl 2 rfl) ?_
              refine lv_iload_n hx hb dX9_readLine_98 rfl (lv_at hl 1 rfl) ?_
              refine lv_iload_n hx hb dX9_readLine_99 rfl (lv_at hl 0 rfl) ?_
              refine lv_sipush (v := 304) hx hb dX9_readLine_100 (by decide) ?_
              refine lv_icmp_ne (tgt := 110) hx hb dX9_readLine_103 (by decide) (fun c12 => ?_) (fun c12 => ?_)
              · have hf := (if_neg c12).symm.trans hf
                refine lv_iconst (v := 0) hx hb dX9_readLine_110 (by decide) ?_
                obtain ⟨x111, h111, hf⟩ := bd_of hf
                refine r_callV (k := ((6, 0) : Ky)) C hW hl lk_X9_43 (c_X9_readLimit hwf h111) ⟨rfl, rfl⟩ ⟨Nat.le_of_ble_eq_true rfl, Nat.le_of_ble_eq_true rfl⟩ rfl rfl rfl (As := [.int (μ (6, 0) 9), .int (0 : Int32)]) (rest := []) rfl rfl (Nat.le_of_ble_eq_true rfl) dX9_readLine_111 ⟨Nat.zero_le _, Nat.zero_le _⟩ (fun H locs hW => ?_)
                show W p l e (rmq 6 137) s m args below meth c H locs 0 0 Q (F0 m 114 ls [.int x111.1])
                obtain ⟨hz13, hf⟩ := cb_of hf
                obtain rfl := Option.some.inj hf
                rw [hQ]
                exact r_zret C hr hk hW hz13 rfl rfl dX9_readLine_114
              · have hf := (if_pos c12).symm.trans hf
                refine lv_iconst (v := 1) hx hb dX9_readLine_106 (by decide) ?_
                refine lv_goto (tgt := 111) hx hb dX9_readLine_107 (by decide) ?_
                obtain ⟨x111, h111, hf⟩ := bd_of hf
                refine r_callV (k := ((6, 0) : Ky)) C hW hl lk_X9_43 (c_X9_readLimit hwf h111) ⟨rfl, rfl⟩ ⟨Nat.le_of_ble_eq_true rfl, Nat.le_of_ble_eq_true rfl⟩ rfl rfl rfl (As := [.int (μ (6, 0) 9), .int (1 : Int32)]) (rest := []) rfl rfl (Nat.le_of_ble_eq_true rfl) dX9_readLine_111 ⟨Nat.zero_le _, Nat.zero_le _⟩ (fun H locs hW => ?_)
                show W p l e (rmq 6 137) s m args below meth c H locs 0 0 Q (F0 m 114 ls [.int x111.1])
                obtain ⟨hz14, hf⟩ := cb_of hf
                obtain rfl := Option.some.inj hf
                rw [hQ]
                exact r_zret C hr hk hW hz14 rfl rfl dX9_readLine_114
            · have hf := (if_neg c11).symm.trans hf
              have n11 := lv_neT c11 (a := 304) (by decide)
              by_cases c15 : (μ (6, 0) 8) = (305 : Int32)
              · have hf := (if_pos c15).symm.trans hf
                refine lv_tableIn (off := 62) (tgt := 97) hx hb dX9_readLine_35 (by rw [c15]; decide) (by rw [c15]; decide) (by rw [c15]; rfl) (by decide) ?_
                refine lv_aload_n hx hb dX9_readLine_97 rfl (lv_at hl 2 rfl) ?_
                refine lv_iload_n hx hb dX9_readLine_98 rfl (lv_at hl 1 rfl) ?_
                refine lv_iload_n hx hb dX9_readLine_99 rfl (lv_at hl 0 rfl) ?_
                refine lv_sipush (v := 304) hx hb dX9_readLine_100 (by decide) ?_
                refine lv_icmp_ne (tgt := 110) hx hb dX9_readLine_103 (by decide) (fun c16 => ?_) (fun c16 => ?_)
                · have hf := (if_neg c16).symm.trans hf
                  refine lv_iconst (v := 0) hx hb dX9_readLine_110 (by decide) ?_
                  obtain ⟨x111, h111, hf⟩ := bd_of hf
                  refine r_callV (k := ((6, 0) : Ky)) C hW hl lk_X9_43 (c_X9_readLimit hwf h111) ⟨rfl, rfl⟩ ⟨Nat.le_of_ble_eq_true rfl, Nat.le_of_ble_eq_true rfl⟩ rfl rfl rfl (As := [.int (μ (6, 0) 9), .int (0 : Int32)]) (rest := []) rfl rfl (Nat.le_of_ble_eq_true rfl) dX9_readLine_111 ⟨Nat.zero_le _, Nat.zero_le _⟩ (fun H locs hW => ?_)
                  show W p l e (rmq 6 137) s m args below meth c H locs 0 0 Q (F0 m 114 ls [.int x111.1])
                  obtain ⟨hz17, hf⟩ := cb_of hf
                  obtain rfl := Option.some.inj hf
                  rw [hQ]
                  exact r_zret C hr hk hW hz17 rfl rfl dX9_readLine_114
                · have hf := (if_pos c16).symm.trans hf
                  refine lv_iconst (v := 1) hx hb dX9_readLine_106 (by decide) ?_
                  refine lv_goto (tgt := 111) hx hb dX9_readLine_107 (by decide) ?_
                  obtain ⟨x111, h111, hf⟩ := bd_of hf
                  refine r_callV (k := ((6, 0) : Ky)) C hW hl lk_X9_43 (c_X9_readLimit hwf h111) ⟨rfl, rfl⟩ ⟨Nat.le_of_ble_eq_true rfl, Nat.le_of_ble_eq_true rfl⟩ rfl rfl rfl (As := [.int (μ (6, 0) 9), .int (1 : Int32)]) (rest := []) rfl rfl (Nat.le_of_ble_eq_true rfl) dX9_readLine_111 ⟨Nat.zero_le _, Nat.zero_le _⟩ (fun H locs hW => ?_)
                  show W p l e (rmq 6 137) s m args below meth c H locs 0 0 Q (F0 m 114 ls [.int x111.1])
                  obtain ⟨hz18, hf⟩ := cb_of hf
                  obtain rfl := Option.some.inj hf
                  rw [hQ]
                  exact r_zret C hr hk hW hz18 rfl rfl dX9_readLine_114
              · have hf := (if_neg c15).symm.trans hf
                have n15 := lv_neT c15 (a := 305) (by decide)
                by_cases c19 : (μ (6, 0) 8) = (306 : Int32)
                · have hf := (if_pos c19).symm.trans hf
                  refine lv_tableIn (off := 98) (tgt := 133) hx hb dX9_readLine_35 (by rw [c19]; decide) (by rw [c19]; decide) (by rw [c19]; rfl) (by decide) ?_
                  refine lv_aload_n hx hb dX9_readLine_133 rfl (lv_at hl 2 rfl) ?_
                  refine lv_iload_n hx hb dX9_readLine_134 rfl (lv_at hl 1 rfl) ?_
                  obtain ⟨x135, h135, hf⟩ := bd_of hf
                  refine r_callVU (k := ((6, 0) : Ky)) C hW hl lk_X9_26 (c_X8_wrongAt_0 hwf h135) ⟨rfl, rfl⟩ ⟨Nat.le_of_ble_eq_true rfl, Nat.le_of_ble_eq_true rfl⟩ rfl rfl rfl (As := [.int (μ (6, 0) 9)]) (rest := []) rfl rfl (Nat.le_of_ble_eq_true rfl) dX9_readLine_135 ⟨Nat.zero_le _, Nat.zero_le _⟩ (fun H locs hW => ?_)
                  show W p l e (rmq 6 137) s m args below meth c H locs 0 0 Q (F0 m 138 ls [.int x135.1])
                  obtain ⟨hz20, hf⟩ := cb_of hf
                  obtain rfl := Option.some.inj hf
                  rw [hQ]
                  exact r_zret C hr hk hW hz20 rfl rfl dX9_readLine_138
                · have hf := (if_neg c19).symm.trans hf
                  have n19 := lv_neT c19 (a := 306) (by decide)
                  by_cases c21 : (μ (6, 0) 8) = (307 : Int32)
                  · have hf := (if_pos c21).symm.trans hf
                    refine lv_tableIn (off := 80) (tgt := 115) hx hb dX9_readLine_35 (by rw [c21]; decide) (by rw [c21]; decide) (by rw [c21]; rfl) (by decide) ?_
                    refine lv_aload_n hx hb dX9_readLine_115 rfl (lv_at hl 2 rfl) ?_
                    refine lv_iload_n hx hb dX9_readLine_116 rfl (lv_at hl 1 rfl) ?_
                    refine lv_iload_n hx hb dX9_readLine_117 rfl (lv_at hl 0 rfl) ?_
                    refine lv_sipush (v := 307) hx hb dX9_readLine_118 (by decide) ?_
                    refine lv_icmp_ne (tgt := 128) hx hb dX9_readLine_121 (by decide) (fun c22 => ?_) (fun c22 => ?_)
                    · have hf := (if_neg c22).symm.trans hf
                      refine lv_iconst (v := 0) hx hb dX9_readLine_128 (by decide) ?_
                      obtain ⟨x129, h129, hf⟩ := bd_of hf
                      refine r_callV (k := ((6, 0) : Ky)) C hW hl lk_X9_47 (c_X9_readMatch hwf h129) ⟨rfl, rfl⟩ ⟨Nat.le_of_ble_eq_true rfl, Nat.le_of_ble_eq_true rfl⟩ rfl rfl rfl (As := [.int (μ (6, 0) 9), .int (0 : Int32)]) (rest := []) rfl rfl (Nat.le_of_ble_eq_true rfl) dX9_readLine_129 ⟨Nat.zero_le _, Nat.zero_le _⟩ (fun H locs hW => ?_)
                      show W p l e (rmq 6 137) s m args below meth c H locs 0 0 Q (F0 m 132 ls [.int x129.1])
                      obtain ⟨hz23, hf⟩ := cb_of hf
                      obtain rfl := Option.some.inj hf
                      rw [hQ]
                      exact r_zret C hr hk hW hz23 rfl rfl dX9_readLine_132
                    · have hf := (if_pos c22).symm.trans hf
                      refine lv_iconst (v := 1) hx hb dX9_readLine_124 (by decide) ?_
                      refine lv_goto (tgt := 129) hx hb dX9_readLine_125 (by decide) ?_
                      obtain ⟨x129, h129, hf⟩ := bd_of hf
                      refine r_callV (k := ((6, 0) : Ky)) C hW hl lk_X9_47 (c_X9_readMatch hwf h129) ⟨rfl, rfl⟩ ⟨Nat.le_of_ble_eq_true rfl, Nat.le_of_ble_eq_true rfl⟩ rfl rfl rfl (As := [.int (μ (6, 0) 9), .int (1 : Int32)]) (rest := []) rfl rfl (Nat.le_of_ble_eq_true rfl) dX9_readLine_129 ⟨Nat.zero_le _, Nat.zero_le _⟩ (fun H locs hW => ?_)
                      show W p l e (rmq 6 137) s m args below meth c H locs 0 0 Q (F0 m 132 ls [.int x129.1])
                      obtain ⟨hz24, hf⟩ := cb_of hf
                      obtain rfl := Option.some.inj hf
                      rw [hQ]
                      exact r_zret C hr hk hW hz24 rfl rfl dX9_readLine_132
                  · have hf := (if_neg c21).symm.trans hf
                    have n21 := lv_neT c21 (a := 307) (by decide)
                    by_cases c25 : (μ (6, 0) 8) = (308 : Int32)
                    · have hf := (if_pos c25).symm.trans hf
                      refine lv_tableIn (off := 80) (tgt := 115) hx hb dX9_readLine_35 (by rw [c25]; decide) (by rw [c25]; decide) (by rw [c25]; rfl) (by decide) ?_
                      refine lv_aload_n hx hb dX9_readLine_115 rfl (lv_at hl 2 rfl) ?_
                      refine lv_iload_n hx hb dX9_readLine_116 rfl (lv_at hl 1 rfl) ?_
                      refine lv_iload_n hx hb dX9_readLine_117 rfl (lv_at hl 0 rfl) ?_
                      refine lv_sipush (v := 307) hx hb dX9_readLine_118 (by decide) ?_
                      refine lv_icmp_ne (tgt := 128) hx hb dX9_readLine_121 (by decide) (fun c26 => ?_) (fun c26 => ?_)
                      · have hf := (if_neg c26).symm.trans hf
                        refine lv_iconst (v := 0) hx hb dX9_readLine_128 (by decide) ?_
                        obtain ⟨x129, h129, hf⟩ := bd_of hf
                        refine r_callV (k := ((6, 0) : Ky)) C hW hl lk_X9_47 (c_X9_readMatch hwf h129) ⟨rfl, rfl⟩ ⟨Nat.le_of_ble_eq_true rfl, Nat.le_of_ble_eq_true rfl⟩ rfl rfl rfl (As := [.int (μ (6, 0) 9), .int (0 : Int32)]) (rest := []) rfl rfl (Nat.le_of_ble_eq_true rfl) dX9_readLine_129 ⟨Nat.zero_le _, Nat.zero_le _⟩ (fun H locs hW => ?_)
                        show W p l e (rmq 6 137) s m args below meth c H locs 0 0 Q (F0 m 132 ls [.int x129.1])
                        obtain ⟨hz27, hf⟩ := cb_of hf
                        obtain rfl := Option.some.inj hf
                        rw [hQ]
                        exact r_zret C hr hk hW hz27 rfl rfl dX9_readLine_132
                      · have hf := (if_pos c26).symm.trans hf
                        refine lv_iconst (v := 1) hx hb dX9_readLine_124 (by decide) ?_
                        refine lv_goto (tgt := 129) hx hb dX9_readLine_125 (by decide) ?_
                        obtain ⟨x129, h129, hf⟩ := bd_of hf
                        refine r_callV (k := ((6, 0) : Ky)) C hW hl lk_X9_47 (c_X9_readMatch hwf h129) ⟨rfl, rfl⟩ ⟨Nat.le_of_ble_eq_true rfl, Nat.le_of_ble_eq_true rfl⟩ rfl rfl rfl (As := [.int (μ (6, 0) 9), .int (1 : Int32)]) (rest := []) rfl rfl (Nat.le_of_ble_eq_true rfl) dX9_readLine_129 ⟨Nat.zero_le _, Nat.zero_le _⟩ (fun H locs hW => ?_)
                        show W p l e (rmq 6 137) s m args below meth c H locs 0 0 Q (F0 m 132 ls [.int x129.1])
                        obtain ⟨hz28, hf⟩ := cb_of hf
                        obtain rfl := Option.some.inj hf
                        rw [hQ]
                        exact r_zret C hr hk hW hz28 rfl rfl dX9_readLine_132
                    · have hf := (if_neg c25).symm.trans hf
                      have n25 := lv_neT c25 (a := 308) (by decide)
                      refine lv_tableOut (tgt := 133) hx hb dX9_readLine_35 (by omega) (by decide) ?_
                      refine lv_aload_n hx hb dX9_readLine_133 rfl (lv_at hl 2 rfl) ?_
                      refine lv_iload_n hx hb dX9_readLine_134 rfl (lv_at hl 1 rfl) ?_
                      obtain ⟨x135, h135, hf⟩ := bd_of hf
                      refine r_callVU (k := ((6, 0) : Ky)) C hW hl lk_X9_26 (c_X8_wrongAt_0 hwf h135) ⟨rfl, rfl⟩ ⟨Nat.le_of_ble_eq_true rfl, Nat.le_of_ble_eq_true rfl⟩ rfl rfl rfl (As := [.int (μ (6, 0) 9)]) (rest := []) rfl rfl (Nat.le_of_ble_eq_true rfl) dX9_readLine_135 ⟨Nat.zero_le _, Nat.zero_le _⟩ (fun H locs hW => ?_)
                      show W p l e (rmq 6 137) s m args below meth c H locs 0 0 Q (F0 m 138 ls [.int x135.1])
                      obtain ⟨hz29, hf⟩ := cb_of hf
                      obtain rfl := Option.some.inj hf
                      rw [hQ]
                      exact r_zret C hr hk hW hz29 rfl rfl dX9_readLine_138
    · have hf := (if_neg c3).symm.trans hf
      refine lv_aload_n hx hb dX9_readLine_24 rfl (lv_at hl 2 rfl) ?_
      refine lv_iload_n hx hb dX9_readLine_25 rfl (lv_at hl 1 rfl) ?_
      obtain ⟨x26, h26, hf⟩ := bd_of hf
      refine r_callVU (k := ((6, 0) : Ky)) C hW hl lk_X9_26 (c_X8_wrongAt_0 hwf h26) ⟨rfl, rfl⟩ ⟨Nat.le_of_ble_eq_true rfl, Nat.le_of_ble_eq_true rfl⟩ rfl rfl rfl (As := [.int (μ (6, 0) 9)]) (rest := []) rfl rfl (Nat.le_of_ble_eq_true rfl) dX9_readLine_26 ⟨Nat.zero_le _, Nat.zero_le _⟩ (fun H locs hW => ?_)
      show W p l e (rmq 6 137) s m args below meth c H locs 0 0 Q (F0 m 29 ls [.int x26.1])
      obtain ⟨hz30, hf⟩ := cb_of hf
      obtain rfl := Option.some.inj hf
      rw [hQ]
      exact r_zret C hr hk hW hz30 rfl rfl dX9_readLine_29
set_option maxHeartbeats 4000000 in
set_option maxRecDepth 100000 in
theorem c_X8_readLines_0 {l : Launch} {D : va_G} {tc : Nat → ClassId} {ro : Ro} {oa : Ky → Nat} {aa : Nat → Nat} {sh : Sh} {ln : Nat → Nat} {μ : Mm} {v1 : Int32} {res : Int32 × Mm} (hwf : WfS sh) (hf : f_X8_readLines_0 sh ln μ v1 = some res) : Ct l D tc ro (faB oa aa sh) (feB tc oa aa sh ln) yX8_readLines cX8_readLines 3 (some .int) (rmq 7 159) [.ref (oa (6, 0)), .int v1] μ (some (.int res.1)) res.2 := by
  refine Ct.of (by decide) (Nat.le_of_ble_eq_true rfl) (fun p e s m args below meth c A C hr hk hW ls hl => ?_)
  have hx := C.1.1
  have hb := C.1.2.1
  obtain ⟨Q, hQ⟩ : ∃ Q, Q = MQ below (Ctq D (faB oa aa sh) (feB tc oa aa sh ln) (some (.int res.1)) res.2 A) args s 0 0 A := ⟨_, rfl⟩
  rw [← hQ]
  have hl : lv_has ls 3 [(0, .ref (oa (6, 0))), (1, .int v1)] := hl
  unfold f_X8_readLines_0 at hf
  refine lv_aload_n hx hb dX8_readLines_0 rfl (lv_at hl 0 rfl) ?_
  refine gf_X8_27_0 C hW dX8_readLines_1 ?_
  refine lv_if_ne (tgt := 9) hx hb dX8_readLines_4 (by decide) (fun c1 => ?_) (fun c1 => ?_)
  · have hf := (if_neg c1).symm.trans hf
    refine lv_iconst (v := 1) hx hb dX8_readLines_9 (by decide) ?_
    refine lv_istore_n (lv' := [(2, .int (1 : Int32)), (0, .ref (oa (6, 0))), (1, .int v1)]) hx hb dX8_readLines_10 rfl hl (by decide) rfl (fun ls hl => ?_)
    have L11 : ∀ (μ : Mm) (v2 : Int32) (H : Heap) (locs : List Loc) (ls : Array Slot), Wh (fun z : Mm × Int32 => f_X8_readLines_0_L11 sh ln v1 z.1 z.2) (μ, v2) = some res → Wd D (faB oa aa sh) (feB tc oa aa sh ln) A s.heap μ H locs → lv_has ls 3 [(0, .ref (oa (6, 0))), (1, .int v1), (2, .int v2)] → W p l e (rmq 7 159) s m args below meth c H locs 0 0 Q (F0 m 11 ls []) := by
      intro μ v2 H locs ls hf hW hl
      refine Wh_rule hf (fun z : Mm × Int32 => ∀ (H : Heap) (locs : List Loc) (ls : Array Slot), Wd D (faB oa aa sh) (feB tc oa aa sh ln) A s.heap z.1 H locs → lv_has ls 3 [(0, .ref (oa (6, 0))), (1, .int v1), (2, .int z.2)] → W p l e (rmq 7 159) s m args below meth c H locs 0 0 Q (F0 m 11 ls [])) (fun z o1 hf Kl1 Kr1 => ?_) _ _ _ hW hl
      obtain ⟨μ, v2⟩ := z
      intro H locs ls hW hl
      have hf : f_X8_readLines_0_L11 sh ln v1 μ v2 = some o1 := hf
      unfold f_X8_readLines_0_L11 at hf
      have hW : Wd D (faB oa aa sh) (feB tc oa aa sh ln) A s.heap μ H locs := hW
      have hl : lv_has ls 3 [(0, .ref (oa (6, 0))), (1, .int v1), (2, .int v2)] := hl
      refine lv_iload_n hx hb dX8_readLines_11 rfl (lv_at hl 2 rfl) ?_
      refine lv_iload_n hx hb dX8_readLines_12 rfl (lv_at hl 1 rfl) ?_
      refine lv_icmp_gt (tgt := 51) hx hb dX8_readLines_13 (by decide) (fun c2 => ?_) (fun c2 => ?_)
      · have hf := (if_pos c2).symm.trans hf
        obtain ⟨x9003, hf, hx9003⟩ := map_of hf
        have e9003 := (Kr1 _ hx9003.symm).symm
        subst e9003
        refine lv_aload_n hx hb dX8_readLines_51 rfl (lv_at hl 0 rfl) ?_
        refine lv_aload_n hx hb dX8_readLines_52 rfl (lv_at hl 0 rfl) ?_
        refine gf_X8_38_0 C hW dX8_readLines_53 ?_
        obtain ⟨x56, h56, hf⟩ := bd_of hf
        refine r_callVU (k := ((6, 0) : Ky)) C hW hl lk_X8_41_0 (c_X8_wrongAt_0 hwf h56) ⟨rfl, rfl⟩ ⟨Nat.le_of_ble_eq_true rfl, Nat.le_of_ble_eq_true rfl⟩ rfl rfl rfl (As := [.int (μ (6, 0) 9)]) (rest := []) rfl rfl (Nat.le_of_ble_eq_true rfl) dX8_readLines_56 ⟨Nat.zero_le _, Nat.zero_le _⟩ (fun H locs hW => ?_)
        show W p l e (rmq 7 159) s m args below meth c H locs 0 0 Q (F0 m 59 ls [.int x56.1])
        refine lv_pop hx hb dX8_readLines_59 rfl ?_
        refine lv_iconst (v := -1) hx hb dX8_readLines_60 (by decide) ?_
        obtain rfl := Option.some.inj hf
        rw [hQ]
        exact r_iret C hr hk hW rfl rfl dX8_readLines_61
      · have hf := (if_neg c2).symm.trans hf
        refine lv_aload_n hx hb dX8_readLines_16 rfl (lv_at hl 0 rfl) ?_
        obtain ⟨x17, h17, hf⟩ := bd_of hf
        refine r_callVU (k := ((6, 0) : Ky)) C hW hl lk_X8_30_0 (c_X9_readLine hwf h17) ⟨rfl, rfl⟩ ⟨Nat.le_of_ble_eq_true rfl, Nat.le_of_ble_eq_true rfl⟩ rfl rfl rfl (As := []) (rest := []) rfl rfl (Nat.le_of_ble_eq_true rfl) dX8_readLines_17 ⟨Nat.zero_le _, Nat.zero_le _⟩ (fun H locs hW => ?_)
        show W p l e (rmq 7 159) s m args below meth c H locs 0 0 Q (F0 m 20 ls [.int x17.1])
        refine lv_if_ne (tgt := 25) hx hb dX8_readLines_20 (by decide) (fun c4 => ?_) (fun c4 => ?_)
        · have hf := (if_neg c4).symm.trans hf
          refine lv_aload_n hx hb dX8_readLines_25 rfl (lv_at hl 0 rfl) ?_
          refine gf_X8_27_0 C hW dX8_readLines_26 ?_
          refine lv_if_ne (tgt := 34) hx hb dX8_readLines_29 (by decide) (fun c5 => ?_) (fun c5 => ?_)
          · have hf := (if_neg c5).symm.trans hf
            refine lv_aload_n hx hb dX8_readLines_34 rfl (lv_at hl 0 rfl) ?_
            refine lv_bipush (v := 59) hx hb dX8_readLines_35 (by decide) ?_
            obtain ⟨x37, h37, hf⟩ := bd_of hf
            refine r_callVU (k := ((6, 0) : Ky)) C hW hl lk_X8_34_0 (c_X8_take_0 hwf h37) ⟨rfl, rfl⟩ ⟨Nat.le_of_ble_eq_true rfl, Nat.le_of_ble_eq_true rfl⟩ rfl rfl rfl (As := [.int (59 : Int32)]) (rest := []) rfl rfl (Nat.le_of_ble_eq_true rfl) dX8_readLines_37 ⟨Nat.zero_le _, Nat.zero_le _⟩ (fun H locs hW => ?_)
            show W p l e (rmq 7 159) s m args below meth c H locs 0 0 Q (F0 m 40 ls [.int x37.1])
            refine lv_if_ne (tgt := 45) hx hb dX8_readLines_40 (by decide) (fun c6 => ?_) (fun c6 => ?_)
            · have hf := (if_neg c6).symm.trans hf
              refine lv_iinc (v := (v2 + (1 : Int32))) (lv' := [(2, .int (v2 + (1 : Int32))), (0, .ref (oa (6, 0))), (1, .int v1)]) hx hb dX8_readLines_45 hl (k := 2) rfl rfl (by decide) rfl (fun ls hl => ?_)
              refine lv_goto (tgt := 11) hx hb dX8_readLines_48 (by decide) ?_
              obtain rfl := Option.some.inj hf
              exact Kl1 _ rfl _ _ _ hW (lv_sub hl [1, 2, 0] rfl)
            · have hf := (if_pos c6).symm.trans hf
              obtain ⟨x9007, hf, hx9007⟩ := map_of hf
              have e9007 := (Kr1 _ hx9007.symm).symm
              subst e9007
              refine lv_iconst (v := -1) hx hb dX8_readLines_43 (by decide) ?_
              obtain rfl := Option.some.inj hf
              rw [hQ]
              exact r_iret C hr hk hW rfl rfl dX8_readLines_44
          · have hf := (if_pos c5).symm.trans hf
            obtain ⟨x9008, hf, hx9008⟩ := map_of hf
            have e9008 := (Kr1 _ hx9008.symm).symm
            subst e9008
            refine lv_iload_n hx hb dX8_readLines_32 rfl (lv_at hl 2 rfl) ?_
            obtain rfl := Option.some.inj hf
            rw [hQ]
            exact r_iret C hr hk hW rfl rfl dX8_readLines_33
        · have hf := (if_pos c4).symm.trans hf
          obtain ⟨x9009, hf, hx9009⟩ := map_of hf
          have e9009 := (Kr1 _ hx9009.symm).symm
          subst e9009
          refine lv_iconst (v := -1) hx hb dX8_readLines_23 (by decide) ?_
          obtain rfl := Option.some.inj hf
          rw [hQ]
          exact r_iret C hr hk hW rfl rfl dX8_readLines_24
    exact L11 μ (1 : Int32) _ _ _ hf hW (lv_sub hl [1, 2, 0] rfl)
  · have hf := (if_pos c1).symm.trans hf
    refine lv_iconst (v := 0) hx hb dX8_readLines_7 (by decide) ?_
    obtain rfl := Option.some.inj hf
    rw [hQ]
    exact r_iret C hr hk hW rfl rfl dX8_readLines_8
set_option maxHeartbeats 4000000 in
set_option maxRecDepth 100000 in
theorem c_X8_wrong_0 {l : Launch} {D : va_G} {tc : Nat → ClassId} {ro : Ro} {oa : Ky → Nat} {aa : Nat → Nat} {sh : Sh} {ln : Nat → Nat} {μ : Mm} {res : Int32} (hwf : WfS sh) (hf : f_X8_wrong_0 sh ln μ = some res) : Ct l D tc ro (faB oa aa sh) (feB tc oa aa sh ln) yX8_wrong cX8_wrong 1 (some .int) (rmq 0 0) [.ref (oa (6, 0))] μ (some (.int res)) μ := by
  refine Ct.of (by decide) (Nat.le_of_ble_eq_true rfl) (fun p e s m args below meth c A C hr hk hW ls hl => ?_)
  have hx := C.1.1
  have hb := C.1.2.1
  obtain ⟨Q, hQ⟩ : ∃ Q, Q = MQ below (Ctq D (faB oa aa sh) (feB tc oa aa sh ln) (some (.int res)) μ A) args s 0 0 A := ⟨_, rfl⟩
  rw [← hQ]
  have hl : lv_has ls 1 [(0, .ref (oa (6, 0)))] := hl
  unfold f_X8_wrong_0 at hf
  refine lv_aload_n hx hb dX8_wrong_0 rfl (lv_at hl 0 rfl) ?_
  refine gf_X8_23_0 C hW dX8_wrong_1 ?_
  obtain rfl := Option.some.inj hf
  rw [hQ]
  exact r_iret C hr hk hW rfl rfl dX8_wrong_4
set_option maxHeartbeats 4000000 in
set_option maxRecDepth 100000 in
theorem c_X10_forgetPast {l : Launch} {D : va_G} {tc : Nat → ClassId} {ro : Ro} {oa : Ky → Nat} {aa : Nat → Nat} {sh : Sh} {ln : Nat → Nat} {μ : Mm} {res : Mm} (hwf : WfS sh) (hf : f_X10_forgetPast sh ln μ = some res) : Ct l D tc ro (faB oa aa sh) (feB tc oa aa sh ln) yX10_forgetPast cX10_forgetPast 1 none (rmq 0 0) [.ref (oa (0, 0))] μ none res := by
  refine Ct.of (by decide) (Nat.le_of_ble_eq_true rfl) (fun p e s m args below meth c A C hr hk hW ls hl => ?_)
  have hx := C.1.1
  have hb := C.1.2.1
  obtain ⟨Q, hQ⟩ : ∃ Q, Q = MQ below (Ctq D (faB oa aa sh) (feB tc oa aa sh ln) none res A) args s 0 0 A := ⟨_, rfl⟩
  rw [← hQ]
  have hl : lv_has ls 1 [(0, .ref (oa (0, 0)))] := hl
  unfold f_X10_forgetPast at hf
  refine lv_aload_n hx hb dX10_forgetPast_0 rfl (lv_at hl 0 rfl) ?_
  refine lv_iconst (v := 0) hx hb dX10_forgetPast_1 (by decide) ?_
  refine pf_X10_364 C hW dX10_forgetPast_2 (fun H locs hW => ?_)
  obtain rfl := Option.some.inj hf
  rw [hQ]
  exact r_vret C hr hk hW rfl rfl dX10_forgetPast_5
set_option maxHeartbeats 4000000 in
set_option maxRecDepth 100000 in
theorem c_X10_village {l : Launch} {D : va_G} {tc : Nat → ClassId} {ro : Ro} {oa : Ky → Nat} {aa : Nat → Nat} {sh : Sh} {ln : Nat → Nat} {μ : Mm} {res : Int32 × Mm} (hwf : WfS sh) (hf : f_X10_village sh ln μ = some res) : Ct l D tc ro (faB oa aa sh) (feB tc oa aa sh ln) yX10_village cX10_village 4 (some .int) (rmq 8 181) [.ref (oa (0, 0))] μ (some (.int res.1)) res.2 := by
  refine Ct.of (by decide) (Nat.le_of_ble_eq_true rfl) (fun p e s m args below meth c A C hr hk hW ls hl => ?_)
  have hx := C.1.1
  have hb := C.1.2.1
  obtain ⟨Q, hQ⟩ : ∃ Q, Q = MQ below (Ctq D (faB oa aa sh) (feB tc oa aa sh ln) (some (.int res.1)) res.2 A) args s 0 0 A := ⟨_, rfl⟩
  rw [← hQ]
  have hl : lv_has ls 4 [(0, .ref (oa (0, 0)))] := hl
  unfold f_X10_village at hf
  refine lv_aload_n hx hb dX10_village_0 rfl (lv_at hl 0 rfl) ?_
  refine gf_X10_10 C hW dX10_village_1 ?_
  obtain ⟨x4, h4, hf⟩ := bd_of hf
  refine r_callV (k := ((2, 0) : Ky)) C hW hl lk_X10_86 (c_X7_use hwf h4) ⟨rfl, rfl⟩ ⟨Nat.le_of_ble_eq_true rfl, Nat.le_of_ble_eq_true rfl⟩ rfl rfl rfl (As := []) (rest := []) rfl rfl (Nat.le_of_ble_eq_true rfl) dX10_village_4 ⟨Nat.zero_le _, Nat.zero_le _⟩ (fun H locs hW => ?_)
  show W p l e (rmq 8 181) s m args below meth c H locs 0 0 Q (F0 m 7 ls [.int x4.1])
  refine lv_istore_n (lv' := [(1, .int x4.1), (0, .ref (oa (0, 0)))]) hx hb dX10_village_7 rfl hl (by decide) rfl (fun ls hl => ?_)
  refine lv_aload_n hx hb dX10_village_8 rfl (lv_at hl 1 rfl) ?_
  refine gf_X10_64 C hW dX10_village_9 ?_
  obtain ⟨hq1, hf⟩ := ce_of hf
  refine lv_aload_n hx hb dX10_village_12 rfl (lv_at hl 1 rfl) ?_
  refine gf_X10_60 C hW dX10_village_13 ?_
  obtain ⟨hq2, hf⟩ := ce_of hf
  obtain ⟨x16, h16, hf⟩ := bd_of hf
  refine r_callV (k := ((13, (x4.2 (0, 0) 10).toNatClampNeg) : Ky)) C hW hl lk_X10_89 (c_X6_become hwf hq1 hq2 h16) ⟨rfl, rfl⟩ ⟨Nat.le_of_ble_eq_true rfl, Nat.le_of_ble_eq_true rfl⟩ rfl (faB_13 hq1) rfl (As := [.ref (oa (13, (x4.2 (0, 0) 9).toNatClampNeg))]) (rest := []) rfl rfl (Nat.le_of_ble_eq_true rfl) dX10_village_16 ⟨Nat.zero_le _, Nat.zero_le _⟩ (fun H locs hW => ?_)
  show W p l e (rmq 8 181) s m args below meth c H locs 0 0 Q (F0 m 19 ls [])
  refine lv_aload_n hx hb dX10_village_19 rfl (lv_at hl 1 rfl) ?_
  refine gf_X10_42 C hW dX10_village_20 ?_
  refine lv_aload_n hx hb dX10_village_23 rfl (lv_at hl 1 rfl) ?_
  refine gf_X10_10 C hW dX10_village_24 ?_
  refine lv_iload_n hx hb dX10_village_27 rfl (lv_at hl 0 rfl) ?_
  obtain ⟨x28, h28, hf⟩ := bd_of hf
  refine r_callVU (k := ((6, 0) : Ky)) C hW hl lk_X10_93 (c_X8_open_0 hwf h28) ⟨rfl, rfl⟩ ⟨Nat.le_of_ble_eq_true rfl, Nat.le_of_ble_eq_true rfl⟩ rfl rfl rfl (As := [.ref (oa (2, 0)), .int x4.1]) (rest := []) rfl rfl (Nat.le_of_ble_eq_true rfl) dX10_village_28 ⟨Nat.zero_le _, Nat.zero_le _⟩ (fun H locs hW => ?_)
  show W p l e (rmq 8 181) s m args below meth c H locs 0 0 Q (F0 m 31 ls [])
  refine lv_aload_n hx hb dX10_village_31 rfl (lv_at hl 1 rfl) ?_
  refine gf_X10_42 C hW dX10_village_32 ?_
  refine lv_aload_n hx hb dX10_village_35 rfl (lv_at hl 1 rfl) ?_
  refine gf_X10_64 C hW dX10_village_36 ?_
  obtain ⟨hq3, hf⟩ := ce_of hf
  obtain ⟨x39, h39, hf⟩ := bd_of hf
  refine r_callV (k := ((6, 0) : Ky)) C hW hl lk_X10_97 (c_X9_aimAt hwf hq3 h39) ⟨rfl, rfl⟩ ⟨Nat.le_of_ble_eq_true rfl, Nat.le_of_ble_eq_true rfl⟩ rfl rfl rfl (As := [.ref (oa (13, (x28 (0, 0) 10).toNatClampNeg))]) (rest := []) rfl rfl (Nat.le_of_ble_eq_true rfl) dX10_village_39 ⟨Nat.zero_le _, Nat.zero_le _⟩ (fun H locs hW => ?_)
  show W p l e (rmq 8 181) s m args below meth c H locs 0 0 Q (F0 m 42 ls [])
  refine lv_aload_n hx hb dX10_village_42 rfl (lv_at hl 1 rfl) ?_
  refine gf_X10_42 C hW dX10_village_43 ?_
  refine lv_bipush (v := 14) hx hb dX10_village_46 (by decide) ?_
  obtain ⟨x48, h48, hf⟩ := bd_of hf
  refine r_callVU (k := ((6, 0) : Ky)) C hW hl lk_X10_100 (c_X8_readLines_0 hwf h48) ⟨rfl, rfl⟩ ⟨Nat.le_of_ble_eq_true rfl, Nat.le_of_ble_eq_true rfl⟩ rfl rfl rfl (As := [.int (14 : Int32)]) (rest := []) rfl rfl (Nat.le_of_ble_eq_true rfl) dX10_village_48 ⟨Nat.zero_le _, Nat.zero_le _⟩ (fun H locs hW => ?_)
  show W p l e (rmq 8 181) s m args below meth c H locs 0 0 Q (F0 m 51 ls [.int x48.1])
  refine lv_istore_n (lv' := [(2, .int x48.1), (1, .int x4.1), (0, .ref (oa (0, 0)))]) hx hb dX10_village_51 rfl hl (by decide) rfl (fun ls hl => ?_)
  refine lv_aload_n hx hb dX10_village_52 rfl (lv_at hl 2 rfl) ?_
  refine lv_aload_n hx hb dX10_village_53 rfl (lv_at hl 2 rfl) ?_
  refine gf_X10_42 C hW dX10_village_54 ?_
  obtain ⟨x57, h57, hf⟩ := bd_of hf
  refine r_callVU (k := ((6, 0) : Ky)) C hW hl lk_X10_104 (c_X8_wrong_0 hwf h57) ⟨rfl, rfl⟩ ⟨Nat.le_of_ble_eq_true rfl, Nat.le_of_ble_eq_true rfl⟩ rfl rfl rfl (As := []) (rest := [.ref (oa (0, 0))]) rfl rfl (Nat.le_of_ble_eq_true rfl) dX10_village_57 ⟨Nat.zero_le _, Nat.zero_le _⟩ (fun H locs hW => ?_)
  show W p l e (rmq 8 181) s m args below meth c H locs 0 0 Q (F0 m 60 ls [.int x57, .ref (oa (0, 0))])
  refine pf_X10_67 C hW dX10_village_60 (fun H locs hW => ?_)
  refine lv_iload_n hx hb dX10_village_63 rfl (lv_at hl 0 rfl) ?_
  refine lv_iconst (v := -1) hx hb dX10_village_64 (by decide) ?_
  refine lv_icmp_ne (tgt := 78) hx hb dX10_village_65 (by decide) (fun c4 => ?_) (fun c4 => ?_)
  · have hf := (if_neg c4).symm.trans hf
    refine lv_aload_n hx hb dX10_village_78 rfl (lv_at hl 2 rfl) ?_
    refine gf_X10_60 C hW dX10_village_79 ?_
    obtain ⟨hq5, hf⟩ := ce_of hf
    refine gf_X10_114 C hW hq5 dX10_village_82 ?_
    refine lv_bipush (v := 12) hx hb dX10_village_85 (by decide) ?_
    refine lv_icmp_lt (tgt := 100) hx hb dX10_village_87 (by decide) (fun c6 => ?_) (fun c6 => ?_)
    · have hf := (if_pos c6).symm.trans hf
      refine lv_aload_n hx hb dX10_village_100 rfl (lv_at hl 2 rfl) ?_
      refine gf_X10_64 C hW dX10_village_101 ?_
      obtain ⟨hq7, hf⟩ := ce_of hf
      refine lv_dup hx hb dX10_village_104 rfl ?_
      refine gf_X10_114 C hW hq7 dX10_village_105 ?_
      refine lv_iconst (v := 1) hx hb dX10_village_108 (by decide) ?_
      refine lv_iadd hx hb dX10_village_109 ?_
      refine pf_X10_114 C hW hq7 dX10_village_110 (fun H locs hW => ?_)
      obtain ⟨μ8, hm8, hf⟩ := bd_of hf
      rw [Option.some.inj hm8] at hW
      refine lv_aload_n hx hb dX10_village_113 rfl (lv_at hl 2 rfl) ?_
      refine gf_X10_60 C hW dX10_village_114 ?_
      obtain ⟨hq9, hf⟩ := ce_of hf
      refine lv_astore_n (lv' := [(3, .ref (oa (13, (μ8 (0, 0) 9).toNatClampNeg))), (2, .int x48.1), (1, .int x4.1), (0, .ref (oa (0, 0)))]) hx hb dX10_village_117 rfl hl (by decide) rfl (fun ls hl => ?_)
      refine lv_aload_n hx hb dX10_village_118 rfl (lv_at hl 3 rfl) ?_
      refine lv_aload_n hx hb dX10_village_119 rfl (lv_at hl 3 rfl) ?_
      refine gf_X10_64 C hW dX10_village_120 ?_
      obtain ⟨hq10, hf⟩ := ce_of hf
      obtain ⟨hb11, hf⟩ := ce_of hf
      refine pr_X10_60_st0 C hW hb11 dX10_village_123 (fun H locs hW => ?_)
      refine lv_aload_n hx hb dX10_village_126 rfl (lv_at hl 3 rfl) ?_
      refine lv_aload_n hx hb dX10_village_127 rfl (lv_at hl 0 rfl) ?_
      obtain ⟨hb12, hf⟩ := ce_of hf
      refine pr_X10_64_st0 C hW hb12 dX10_village_128 (fun H locs hW => ?_)
      obtain ⟨μ13, hm13, hf⟩ := bd_of hf
      rw [Option.some.inj hm13] at hW
      refine lv_aload_n hx hb dX10_village_131 rfl (lv_at hl 3 rfl) ?_
      obtain ⟨x132, h132, hf⟩ := bd_of hf
      refine r_callV (k := ((0, 0) : Ky)) C hW hl lk_X10_122 (c_X10_forgetPast hwf h132) ⟨rfl, rfl⟩ ⟨Nat.le_of_ble_eq_true rfl, Nat.le_of_ble_eq_true rfl⟩ rfl rfl rfl (As := []) (rest := []) rfl rfl (Nat.le_of_ble_eq_true rfl) dX10_village_132 ⟨Nat.zero_le _, Nat.zero_le _⟩ (fun H locs hW => ?_)
      show W p l e (rmq 8 181) s m args below meth c H locs 0 0 Q (F0 m 135 ls [])
      refine lv_aload_n hx hb dX10_village_135 rfl (lv_at hl 3 rfl) ?_
      refine gf_X10_60 C hW dX10_village_136 ?_
      obtain ⟨hq14, hf⟩ := ce_of hf
      refine gf_X10_114 C hW hq14 dX10_village_139 ?_
      obtain rfl := Option.some.inj hf
      rw [hQ]
      exact r_iret C hr hk hW rfl rfl dX10_village_142
    · have hf := (if_neg c6).symm.trans hf
      cases hf
  · have hf := (if_pos c4).symm.trans hf
    cases hf
set_option maxHeartbeats 4000000 in
set_option maxRecDepth 100000 in
theorem c_X10_fault {l : Launch} {D : va_G} {tc : Nat → ClassId} {ro : Ro} {oa : Ky → Nat} {aa : Nat → Nat} {sh : Sh} {ln : Nat → Nat} {μ : Mm} {res : Int32} (hwf : WfS sh) (hf : f_X10_fault sh ln μ = some res) : Ct l D tc ro (faB oa aa sh) (feB tc oa aa sh ln) yX10_fault cX10_fault 1 (some .int) (rmq 0 0) [.ref (oa (0, 0))] μ (some (.int res)) μ := by
  refine Ct.of (by decide) (Nat.le_of_ble_eq_true rfl) (fun p e s m args below meth c A C hr hk hW ls hl => ?_)
  have hx := C.1.1
  have hb := C.1.2.1
  obtain ⟨Q, hQ⟩ : ∃ Q, Q = MQ below (Ctq D (faB oa aa sh) (feB tc oa aa sh ln) (some (.int res)) μ A) args s 0 0 A := ⟨_, rfl⟩
  rw [← hQ]
  have hl : lv_has ls 1 [(0, .ref (oa (0, 0)))] := hl
  unfold f_X10_fault at hf
  refine lv_aload_n hx hb dX10_fault_0 rfl (lv_at hl 0 rfl) ?_
  refine gf_X10_67 C hW dX10_fault_1 ?_
  obtain rfl := Option.some.inj hf
  rw [hQ]
  exact r_iret C hr hk hW rfl rfl dX10_fault_4
set_option maxHeartbeats 4000000 in
set_option maxRecDepth 100000 in
theorem c_X10_needPerson {l : Launch} {D : va_G} {tc : Nat → ClassId} {ro : Ro} {oa : Ky → Nat} {aa : Nat → Nat} {sh : Sh} {ln : Nat → Nat} {μ : Mm} {v1 : Int32} {res : Unit} (hwf : WfS sh) (hf : f_X10_needPerson sh ln μ v1 = some res) : Ct l D tc ro (faB oa aa sh) (feB tc oa aa sh ln) yX10_needPerson cX10_needPerson 2 none (rmq 1 21) [.ref (oa (0, 0)), .int v1] μ none μ := by
  refine Ct.of (by decide) (Nat.le_of_ble_eq_true rfl) (fun p e s m args below meth c A C hr hk hW ls hl => ?_)
  have hx := C.1.1
  have hb := C.1.2.1
  obtain ⟨Q, hQ⟩ : ∃ Q, Q = MQ below (Ctq D (faB oa aa sh) (feB tc oa aa sh ln) none μ A) args s 0 0 A := ⟨_, rfl⟩
  rw [← hQ]
  have hl : lv_has ls 2 [(0, .ref (oa (0, 0))), (1, .int v1)] := hl
  unfold f_X10_needPerson at hf
  refine lv_aload_n hx hb dX10_needPerson_0 rfl (lv_at hl 0 rfl) ?_
  refine gf_X10_60 C hW dX10_needPerson_1 ?_
  obtain ⟨hq1, hf⟩ := ce_of hf
  refine lv_iload_n hx hb dX10_needPerson_4 rfl (lv_at hl 1 rfl) ?_
  obtain ⟨x5, h5, hf⟩ := bd_of hf
  refine r_callV (k := ((13, (μ (0, 0) 9).toNatClampNeg) : Ky)) C hW hl lk_X10_402 (c_X6_hasPerson hwf hq1 h5) ⟨rfl, rfl⟩ ⟨Nat.le_of_ble_eq_true rfl, Nat.le_of_ble_eq_true rfl⟩ rfl (faB_13 hq1) rfl (As := [.int v1]) (rest := []) rfl rfl (Nat.le_of_ble_eq_true rfl) dX10_needPerson_5 ⟨Nat.zero_le _, Nat.zero_le _⟩ (fun H locs hW => ?_)
  show W p l e (rmq 1 21) s m args below meth c H locs 0 0 Q (F0 m 8 ls [.int x5])
  refine lv_if_ne (tgt := 22) hx hb dX10_needPerson_8 (by decide) (fun c2 => ?_) (fun c2 => ?_)
  · have hf := (if_neg c2).symm.trans hf
    obtain rfl := Option.some.inj hf
    rw [hQ]
    exact r_vret C hr hk hW rfl rfl dX10_needPerson_22
  · have hf := (if_pos c2).symm.trans hf
    cases hf
set_option maxHeartbeats 4000000 in
set_option maxRecDepth 100000 in
theorem c_X10_person {l : Launch} {D : va_G} {tc : Nat → ClassId} {ro : Ro} {oa : Ky → Nat} {aa : Nat → Nat} {sh : Sh} {ln : Nat → Nat} {μ : Mm} {v1 v2 : Int32} {res : Int32} (hwf : WfS sh) (hf : f_X10_person sh ln μ v1 v2 = some res) : Ct l D tc ro (faB oa aa sh) (feB tc oa aa sh ln) yX10_person cX10_person 3 (some .int) (rmq 4 96) [.ref (oa (0, 0)), .int v1, .int v2] μ (some (.int res)) μ := by
  refine Ct.of (by decide) (Nat.le_of_ble_eq_true rfl) (fun p e s m args below meth c A C hr hk hW ls hl => ?_)
  have hx := C.1.1
  have hb := C.1.2.1
  obtain ⟨Q, hQ⟩ : ∃ Q, Q = MQ below (Ctq D (faB oa aa sh) (feB tc oa aa sh ln) (some (.int res)) μ A) args s 0 0 A := ⟨_, rfl⟩
  rw [← hQ]
  have hl : lv_has ls 3 [(0, .ref (oa (0, 0))), (1, .int v1), (2, .int v2)] := hl
  unfold f_X10_person at hf
  refine lv_aload_n hx hb dX10_person_0 rfl (lv_at hl 0 rfl) ?_
  refine lv_iload_n hx hb dX10_person_1 rfl (lv_at hl 1 rfl) ?_
  obtain ⟨x2, h2, hf⟩ := bd_of hf
  refine r_callV (k := ((0, 0) : Ky)) C hW hl lk_X10_141 (c_X10_needPerson hwf h2) ⟨rfl, rfl⟩ ⟨Nat.le_of_ble_eq_true rfl, Nat.le_of_ble_eq_true rfl⟩ rfl rfl rfl (As := [.int v1]) (rest := []) rfl rfl (Nat.le_of_ble_eq_true rfl) dX10_person_2 ⟨Nat.zero_le _, Nat.zero_le _⟩ (fun H locs hW => ?_)
  show W p l e (rmq 4 96) s m args below meth c H locs 0 0 Q (F0 m 5 ls [])
  refine lv_iload_n hx hb dX10_person_5 rfl (lv_at hl 2 rfl) ?_
  by_cases c2 : v2 = (0 : Int32)
  · have hf := (if_pos c2).symm.trans hf
    refine lv_tableIn (off := 38) (tgt := 44) hx hb dX10_person_6 (by rw [c2]; decide) (by rw [c2]; decide) (by rw [c2]; rfl) (by decide) ?_
    refine lv_aload_n hx hb dX10_person_44 rfl (lv_at hl 0 rfl) ?_
    refine gf_X10_60 C hW dX10_person_45 ?_
    obtain ⟨hq3, hf⟩ := ce_of hf
    refine lv_aload_n hx hb dX10_person_48 rfl (lv_at hl 0 rfl) ?_
    refine gf_X10_60 C hW dX10_person_49 ?_
    obtain ⟨hq4, hf⟩ := ce_of hf
    refine gf_X10_144 C hW hq4 dX10_person_52 ?_
    refine lv_iload_n hx hb dX10_person_55 rfl (lv_at hl 1 rfl) ?_
    obtain ⟨x56, h56, hf⟩ := bd_of hf
    refine r_callV (k := ((13, (μ (0, 0) 9).toNatClampNeg) : Ky)) C hW hl lk_X10_147 (c_X6_figure hwf hq3 h56) ⟨rfl, rfl⟩ ⟨Nat.le_of_ble_eq_true rfl, Nat.le_of_ble_eq_true rfl⟩ rfl (faB_13 hq3) rfl (As := [.int (μ (13, (μ (0, 0) 9).toNatClampNeg) 3), .int v1]) (rest := []) rfl rfl (Nat.le_of_ble_eq_true rfl) dX10_person_56 ⟨Nat.zero_le _, Nat.zero_le _⟩ (fun H locs hW => ?_)
    show W p l e (rmq 4 96) s m args below meth c H locs 0 0 Q (F0 m 59 ls [.int x56])
    obtain rfl := Option.some.inj hf
    rw [hQ]
    exact r_iret C hr hk hW rfl rfl dX10_person_59
  · have hf := (if_neg c2).symm.trans hf
    have n2 := lv_neT c2 (a := 0) (by decide)
    by_cases c5 : v2 = (1 : Int32)
    · have hf := (if_pos c5).symm.trans hf
      refine lv_tableIn (off := 54) (tgt := 60) hx hb dX10_person_6 (by rw [c5]; decide) (by rw [c5]; decide) (by rw [c5]; rfl) (by decide) ?_
      refine lv_aload_n hx hb dX10_person_60 rfl (lv_at hl 0 rfl) ?_
      refine gf_X10_60 C hW dX10_person_61 ?_
      obtain ⟨hq6, hf⟩ := ce_of hf
      refine gf_X10_151 C hW hq6 dX10_person_64 ?_
      refine lv_iload_n hx hb dX10_person_67 rfl (lv_at hl 1 rfl) ?_
      obtain ⟨x68, h68, hf⟩ := bd_of hf
      refine r_callV (k := ((11, 15 + 5 * ((μ (0, 0) 9).toNatClampNeg) + 1) : Ky)) C hW hl lk_X10_155 (c_X1_at hwf (cex_st hq6 (by decide)) h68) ⟨rfl, rfl⟩ ⟨Nat.le_of_ble_eq_true rfl, Nat.le_of_ble_eq_true rfl⟩ rfl (faB_11 (cex_st hq6 (by decide))) rfl (As := [.int v1]) (rest := []) rfl rfl (Nat.le_of_ble_eq_true rfl) dX10_person_68 ⟨Nat.zero_le _, Nat.zero_le _⟩ (fun H locs hW => ?_)
      show W p l e (rmq 4 96) s m args below meth c H locs 0 0 Q (F0 m 71 ls [.int x68])
      obtain rfl := Option.some.inj hf
      rw [hQ]
      exact r_iret C hr hk hW rfl rfl dX10_person_71
    · have hf := (if_neg c5).symm.trans hf
      have n5 := lv_neT c5 (a := 1) (by decide)
      by_cases c7 : v2 = (2 : Int32)
      · have hf := (if_pos c7).symm.trans hf
        refine lv_tableIn (off := 66) (tgt := 72) hx hb dX10_person_6 (by rw [c7]; decide) (by rw [c7]; decide) (by rw [c7]; rfl) (by decide) ?_
        refine lv_aload_n hx hb dX10_person_72 rfl (lv_at hl 0 rfl) ?_
        refine gf_X10_60 C hW dX10_person_73 ?_
        obtain ⟨hq8, hf⟩ := ce_of hf
        refine lv_iload_n hx hb dX10_person_76 rfl (lv_at hl 1 rfl) ?_
        obtain ⟨x77, h77, hf⟩ := bd_of hf
        refine r_callV (k := ((13, (μ (0, 0) 9).toNatClampNeg) : Ky)) C hW hl lk_X10_160 (c_X6_seers hwf hq8 h77) ⟨rfl, rfl⟩ ⟨Nat.le_of_ble_eq_true rfl, Nat.le_of_ble_eq_true rfl⟩ rfl (faB_13 hq8) rfl (As := [.int v1]) (rest := []) rfl rfl (Nat.le_of_ble_eq_true rfl) dX10_person_77 ⟨Nat.zero_le _, Nat.zero_le _⟩ (fun H locs hW => ?_)
        show W p l e (rmq 4 96) s m args below meth c H locs 0 0 Q (F0 m 80 ls [.int x77])
        obtain rfl := Option.some.inj hf
        rw [hQ]
        exact r_iret C hr hk hW rfl rfl dX10_person_80
      · have hf := (if_neg c7).symm.trans hf
        have n7 := lv_neT c7 (a := 2) (by decide)
        by_cases c9 : v2 = (3 : Int32)
        · have hf := (if_pos c9).symm.trans hf
          refine lv_tableIn (off := 75) (tgt := 81) hx hb dX10_person_6 (by rw [c9]; decide) (by rw [c9]; decide) (by rw [c9]; rfl) (by decide) ?_
          refine lv_aload_n hx hb dX10_person_81 rfl (lv_at hl 0 rfl) ?_
          refine gf_X10_19 C hW dX10_person_82 ?_
          refine lv_aload_n hx hb dX10_person_85 rfl (lv_at hl 0 rfl) ?_
          refine gf_X10_60 C hW dX10_person_86 ?_
          obtain ⟨hq10, hf⟩ := ce_of hf
          refine lv_aload_n hx hb dX10_person_89 rfl (lv_at hl 0 rfl) ?_
          refine gf_X10_60 C hW dX10_person_90 ?_
          obtain ⟨hq11, hf⟩ := ce_of hf
          refine gf_X10_163 C hW hq11 dX10_person_93 ?_
          refine lv_iload_n hx hb dX10_person_96 rfl (lv_at hl 1 rfl) ?_
          refine lv_aload_n hx hb dX10_person_97 rfl (lv_at hl 0 rfl) ?_
          refine gf_X10_60 C hW dX10_person_98 ?_
          obtain ⟨hq12, hf⟩ := ce_of hf
          refine gf_X10_144 C hW hq12 dX10_person_101 ?_
          obtain ⟨x104, h104, hf⟩ := bd_of hf
          refine r_callV (k := ((3, 0) : Ky)) C hW hl lk_X10_166 (c_X4_isSure hwf hq10 (cex_st hq11 (by decide)) h104) ⟨rfl, rfl⟩ ⟨Nat.le_of_ble_eq_true rfl, Nat.le_of_ble_eq_true rfl⟩ rfl rfl rfl (As := [.ref (oa (13, (μ (0, 0) 9).toNatClampNeg)), .ref (oa (11, 15 + 5 * ((μ (0, 0) 9).toNatClampNeg) + 2)), .int v1, .int (μ (13, (μ (0, 0) 9).toNatClampNeg) 3)]) (rest := []) rfl rfl (Nat.le_of_ble_eq_true rfl) dX10_person_104 ⟨Nat.zero_le _, Nat.zero_le _⟩ (fun H locs hW => ?_)
          show W p l e (rmq 4 96) s m args below meth c H locs 0 0 Q (F0 m 107 ls [.int x104])
          refine lv_if_eq (tgt := 114) hx hb dX10_person_107 (by decide) (fun c13 => ?_) (fun c13 => ?_)
          · have hf := (if_pos c13).symm.trans hf
            refine lv_iconst (v := 0) hx hb dX10_person_114 (by decide) ?_
            obtain rfl := Option.some.inj hf
            rw [hQ]
            exact r_iret C hr hk hW rfl rfl dX10_person_115
          · have hf := (if_neg c13).symm.trans hf
            refine lv_iconst (v := 1) hx hb dX10_person_110 (by decide) ?_
            refine lv_goto (tgt := 115) hx hb dX10_person_111 (by decide) ?_
            obtain rfl := Option.some.inj hf
            rw [hQ]
            exact r_iret C hr hk hW rfl rfl dX10_person_115
        · have hf := (if_neg c9).symm.trans hf
          have n9 := lv_neT c9 (a := 3) (by decide)
          by_cases c14 : v2 = (4 : Int32)
          · have hf := (if_pos c14).symm.trans hf
            refine lv_tableIn (off := 110) (tgt := 116) hx hb dX10_person_6 (by rw [c14]; decide) (by rw [c14]; decide) (by rw [c14]; rfl) (by decide) ?_
            refine lv_aload_n hx hb dX10_person_116 rfl (lv_at hl 0 rfl) ?_
            refine gf_X10_19 C hW dX10_person_117 ?_
            refine lv_aload_n hx hb dX10_person_120 rfl (lv_at hl 0 rfl) ?_
            refine gf_X10_60 C hW dX10_person_121 ?_
            obtain ⟨hq15, hf⟩ := ce_of hf
            refine lv_iload_n hx hb dX10_person_124 rfl (lv_at hl 1 rfl) ?_
            obtain ⟨x125, h125, hf⟩ := bd_of hf
            refine r_callV (k := ((3, 0) : Ky)) C hW hl lk_X10_170 (c_X4_holds hwf hq15 h125) ⟨rfl, rfl⟩ ⟨Nat.le_of_ble_eq_true rfl, Nat.le_of_ble_eq_true rfl⟩ rfl rfl rfl (As := [.ref (oa (13, (μ (0, 0) 9).toNatClampNeg)), .int v1]) (rest := []) rfl rfl (Nat.le_of_ble_eq_true rfl) dX10_person_125 ⟨Nat.zero_le _, Nat.zero_le _⟩ (fun H locs hW => ?_)
            show W p l e (rmq 4 96) s m args below meth c H locs 0 0 Q (F0 m 128 ls [.int x125])
            obtain rfl := Option.some.inj hf
            rw [hQ]
            exact r_iret C hr hk hW rfl rfl dX10_person_128
          · have hf := (if_neg c14).symm.trans hf
            have n14 := lv_neT c14 (a := 4) (by decide)
            by_cases c16 : v2 = (5 : Int32)
            · have hf := (if_pos c16).symm.trans hf
              refine lv_tableIn (off := 123) (tgt := 129) hx hb dX10_person_6 (by rw [c16]; decide) (by rw [c16]; decide) (by rw [c16]; rfl) (by decide) ?_
              refine lv_aload_n hx hb dX10_person_129 rfl (lv_at hl 0 rfl) ?_
              refine gf_X10_19 C hW dX10_person_130 ?_
              refine lv_aload_n hx hb dX10_person_133 rfl (lv_at hl 0 rfl) ?_
              refine gf_X10_60 C hW dX10_person_134 ?_
              obtain ⟨hq17, hf⟩ := ce_of hf
              refine lv_iload_n hx hb dX10_person_137 rfl (lv_at hl 1 rfl) ?_
              obtain ⟨x138, h138, hf⟩ := bd_of hf
              refine r_callV (k := ((3, 0) : Ky)) C hW hl lk_X10_174 (c_X4_knownBits hwf hq17 h138) ⟨rfl, rfl⟩ ⟨Nat.le_of_ble_eq_true rfl, Nat.le_of_ble_eq_true rfl⟩ rfl rfl rfl (As := [.ref (oa (13, (μ (0, 0) 9).toNatClampNeg)), .int v1]) (rest := []) rfl rfl (Nat.le_of_ble_eq_true rfl) dX10_person_138 ⟨Nat.zero_le _, Nat.zero_le _⟩ (fun H locs hW => ?_)
              show W p l e (rmq 4 96) s m args below meth c H locs 0 0 Q (F0 m 141 ls [.int x138])
              obtain rfl := Option.some.inj hf
              rw [hQ]
              exact r_iret C hr hk hW rfl rfl dX10_person_141
            · have hf := (if_neg c16).symm.trans hf
              have n16 := lv_neT c16 (a := 5) (by decide)
              refine lv_tableOut (tgt := 142) hx hb dX10_person_6 (by omega) (by decide) ?_
              cases hf
set_option maxHeartbeats 4000000 in
set_option maxRecDepth 100000 in
theorem c_X10_needWorld {l : Launch} {D : va_G} {tc : Nat → ClassId} {ro : Ro} {oa : Ky → Nat} {aa : Nat → Nat} {sh : Sh} {ln : Nat → Nat} {μ : Mm} {v1 : Int32} {res : Unit} (hwf : WfS sh) (hf : f_X10_needWorld sh ln μ v1 = some res) : Ct l D tc ro (faB oa aa sh) (feB tc oa aa sh ln) yX10_needWorld cX10_needWorld 2 none (rmq 1 21) [.ref (oa (0, 0)), .int v1] μ none μ := by
  refine Ct.of (by decide) (Nat.le_of_ble_eq_true rfl) (fun p e s m args below meth c A C hr hk hW ls hl => ?_)
  have hx := C.1.1
  have hb := C.1.2.1
  obtain ⟨Q, hQ⟩ : ∃ Q, Q = MQ below (Ctq D (faB oa aa sh) (feB tc oa aa sh ln) none μ A) args s 0 0 A := ⟨_, rfl⟩
  rw [← hQ]
  have hl : lv_has ls 2 [(0, .ref (oa (0, 0))), (1, .int v1)] := hl
  unfold f_X10_needWorld at hf
  refine lv_aload_n hx hb dX10_needWorld_0 rfl (lv_at hl 0 rfl) ?_
  refine gf_X10_60 C hW dX10_needWorld_1 ?_
  obtain ⟨hq1, hf⟩ := ce_of hf
  refine lv_iload_n hx hb dX10_needWorld_4 rfl (lv_at hl 1 rfl) ?_
  obtain ⟨x5, h5, hf⟩ := bd_of hf
  refine r_callV (k := ((13, (μ (0, 0) 9).toNatClampNeg) : Ky)) C hW hl lk_X10_415 (c_X6_hasWorld hwf hq1 h5) ⟨rfl, rfl⟩ ⟨Nat.le_of_ble_eq_true rfl, Nat.le_of_ble_eq_true rfl⟩ rfl (faB_13 hq1) rfl (As := [.int v1]) (rest := []) rfl rfl (Nat.le_of_ble_eq_true rfl) dX10_needWorld_5 ⟨Nat.zero_le _, Nat.zero_le _⟩ (fun H locs hW => ?_)
  show W p l e (rmq 1 21) s m args below meth c H locs 0 0 Q (F0 m 8 ls [.int x5])
  refine lv_if_ne (tgt := 22) hx hb dX10_needWorld_8 (by decide) (fun c2 => ?_) (fun c2 => ?_)
  · have hf := (if_neg c2).symm.trans hf
    obtain rfl := Option.some.inj hf
    rw [hQ]
    exact r_vret C hr hk hW rfl rfl dX10_needWorld_22
  · have hf := (if_pos c2).symm.trans hf
    cases hf
set_option maxHeartbeats 4000000 in
set_option maxRecDepth 100000 in
theorem c_X10_left {l : Launch} {D : va_G} {tc : Nat → ClassId} {ro : Ro} {oa : Ky → Nat} {aa : Nat → Nat} {sh : Sh} {ln : Nat → Nat} {μ : Mm} {v1 : Int32} {res : Int32} (hwf : WfS sh) (hf : f_X10_left sh ln μ v1 = some res) : Ct l D tc ro (faB oa aa sh) (feB tc oa aa sh ln) yX10_left cX10_left 2 (some .boolean) (rmq 2 42) [.ref (oa (0, 0)), .int v1] μ (some (.int res)) μ := by
  refine Ct.of (by decide) (Nat.le_of_ble_eq_true rfl) (fun p e s m args below meth c A C hr hk hW ls hl => ?_)
  have hx := C.1.1
  have hb := C.1.2.1
  obtain ⟨Q, hQ⟩ : ∃ Q, Q = MQ below (Ctq D (faB oa aa sh) (feB tc oa aa sh ln) (some (.int res)) μ A) args s 0 0 A := ⟨_, rfl⟩
  rw [← hQ]
  have hl : lv_has ls 2 [(0, .ref (oa (0, 0))), (1, .int v1)] := hl
  unfold f_X10_left at hf
  refine lv_aload_n hx hb dX10_left_0 rfl (lv_at hl 0 rfl) ?_
  refine lv_iload_n hx hb dX10_left_1 rfl (lv_at hl 1 rfl) ?_
  obtain ⟨x2, h2, hf⟩ := bd_of hf
  refine r_callV (k := ((0, 0) : Ky)) C hW hl lk_X10_182 (c_X10_needWorld hwf h2) ⟨rfl, rfl⟩ ⟨Nat.le_of_ble_eq_true rfl, Nat.le_of_ble_eq_true rfl⟩ rfl rfl rfl (As := [.int v1]) (rest := []) rfl rfl (Nat.le_of_ble_eq_true rfl) dX10_left_2 ⟨Nat.zero_le _, Nat.zero_le _⟩ (fun H locs hW => ?_)
  show W p l e (rmq 2 42) s m args below meth c H locs 0 0 Q (F0 m 5 ls [])
  refine lv_aload_n hx hb dX10_left_5 rfl (lv_at hl 0 rfl) ?_
  refine gf_X10_60 C hW dX10_left_6 ?_
  obtain ⟨hq1, hf⟩ := ce_of hf
  refine lv_iload_n hx hb dX10_left_9 rfl (lv_at hl 1 rfl) ?_
  obtain ⟨x10, h10, hf⟩ := bd_of hf
  refine r_callV (k := ((13, (μ (0, 0) 9).toNatClampNeg) : Ky)) C hW hl lk_X10_185 (c_X6_stands hwf hq1 h10) ⟨rfl, rfl⟩ ⟨Nat.le_of_ble_eq_true rfl, Nat.le_of_ble_eq_true rfl⟩ rfl (faB_13 hq1) rfl (As := [.int v1]) (rest := []) rfl rfl (Nat.le_of_ble_eq_true rfl) dX10_left_10 ⟨Nat.zero_le _, Nat.zero_le _⟩ (fun H locs hW => ?_)
  show W p l e (rmq 2 42) s m args below meth c H locs 0 0 Q (F0 m 13 ls [.int x10])
  obtain ⟨hz2, hf⟩ := cb_of hf
  obtain rfl := Option.some.inj hf
  rw [hQ]
  exact r_zret C hr hk hW hz2 rfl rfl dX10_left_13
set_option maxHeartbeats 4000000 in
set_option maxRecDepth 100000 in
theorem c_X10_needLeft {l : Launch} {D : va_G} {tc : Nat → ClassId} {ro : Ro} {oa : Ky → Nat} {aa : Nat → Nat} {sh : Sh} {ln : Nat → Nat} {μ : Mm} {v1 : Int32} {res : Unit} (hwf : WfS sh) (hf : f_X10_needLeft sh ln μ v1 = some res) : Ct l D tc ro (faB oa aa sh) (feB tc oa aa sh ln) yX10_needLeft cX10_needLeft 2 none (rmq 2 42) [.ref (oa (0, 0)), .int v1] μ none μ := by
  refine Ct.of (by decide) (Nat.le_of_ble_eq_true rfl) (fun p e s m args below meth c A C hr hk hW ls hl => ?_)
  have hx := C.1.1
  have hb := C.1.2.1
  obtain ⟨Q, hQ⟩ : ∃ Q, Q = MQ below (Ctq D (faB oa aa sh) (feB tc oa aa sh ln) none μ A) args s 0 0 A := ⟨_, rfl⟩
  rw [← hQ]
  have hl : lv_has ls 2 [(0, .ref (oa (0, 0))), (1, .int v1)] := hl
  unfold f_X10_needLeft at hf
  refine lv_aload_n hx hb dX10_needLeft_0 rfl (lv_at hl 0 rfl) ?_
  refine gf_X10_60 C hW dX10_needLeft_1 ?_
  obtain ⟨hq1, hf⟩ := ce_of hf
  refine lv_iload_n hx hb dX10_needLeft_4 rfl (lv_at hl 1 rfl) ?_
  obtain ⟨x5, h5, hf⟩ := bd_of hf
  refine r_callV (k := ((13, (μ (0, 0) 9).toNatClampNeg) : Ky)) C hW hl lk_X10_185 (c_X6_stands hwf hq1 h5) ⟨rfl, rfl⟩ ⟨Nat.le_of_ble_eq_true rfl, Nat.le_of_ble_eq_true rfl⟩ rfl (faB_13 hq1) rfl (As := [.int v1]) (rest := []) rfl rfl (Nat.le_of_ble_eq_true rfl) dX10_needLeft_5 ⟨Nat.zero_le _, Nat.zero_le _⟩ (fun H locs hW => ?_)
  show W p l e (rmq 2 42) s m args below meth c H locs 0 0 Q (F0 m 8 ls [.int x5])
  refine lv_if_ne (tgt := 22) hx hb dX10_needLeft_8 (by decide) (fun c2 => ?_) (fun c2 => ?_)
  · have hf := (if_neg c2).symm.trans hf
    obtain rfl := Option.some.inj hf
    rw [hQ]
    exact r_vret C hr hk hW rfl rfl dX10_needLeft_22
  · have hf := (if_pos c2).symm.trans hf
    cases hf
set_option maxHeartbeats 4000000 in
set_option maxRecDepth 100000 in
theorem c_X10_apart {l : Launch} {D : va_G} {tc : Nat → ClassId} {ro : Ro} {oa : Ky → Nat} {aa : Nat → Nat} {sh : Sh} {ln : Nat → Nat} {μ : Mm} {v1 v2 v3 : Int32} {res : Int32} (hwf : WfS sh) (hf : f_X10_apart sh ln μ v1 v2 v3 = some res) : Ct l D tc ro (faB oa aa sh) (feB tc oa aa sh ln) yX10_apart cX10_apart 4 (some .boolean) (rmq 3 63) [.ref (oa (0, 0)), .int v1, .int v2, .int v3] μ (some (.int res)) μ := by
  refine Ct.of (by decide) (Nat.le_of_ble_eq_true rfl) (fun p e s m args below meth c A C hr hk hW ls hl => ?_)
  have hx := C.1.1
  have hb := C.1.2.1
  obtain ⟨Q, hQ⟩ : ∃ Q, Q = MQ below (Ctq D (faB oa aa sh) (feB tc oa aa sh ln) (some (.int res)) μ A) args s 0 0 A := ⟨_, rfl⟩
  rw [← hQ]
  have hl : lv_has ls 4 [(0, .ref (oa (0, 0))), (1, .int v1), (2, .int v2), (3, .int v3)] := hl
  unfold f_X10_apart at hf
  refine lv_aload_n hx hb dX10_apart_0 rfl (lv_at hl 0 rfl) ?_
  refine lv_iload_n hx hb dX10_apart_1 rfl (lv_at hl 1 rfl) ?_
  obtain ⟨x2, h2, hf⟩ := bd_of hf
  refine r_callV (k := ((0, 0) : Ky)) C hW hl lk_X10_141 (c_X10_needPerson hwf h2) ⟨rfl, rfl⟩ ⟨Nat.le_of_ble_eq_true rfl, Nat.le_of_ble_eq_true rfl⟩ rfl rfl rfl (As := [.int v1]) (rest := []) rfl rfl (Nat.le_of_ble_eq_true rfl) dX10_apart_2 ⟨Nat.zero_le _, Nat.zero_le _⟩ (fun H locs hW => ?_)
  show W p l e (rmq 3 63) s m args below meth c H locs 0 0 Q (F0 m 5 ls [])
  refine lv_aload_n hx hb dX10_apart_5 rfl (lv_at hl 0 rfl) ?_
  refine lv_iload_n hx hb dX10_apart_6 rfl (lv_at hl 2 rfl) ?_
  obtain ⟨x7, h7, hf⟩ := bd_of hf
  refine r_callV (k := ((0, 0) : Ky)) C hW hl lk_X10_182 (c_X10_needWorld hwf h7) ⟨rfl, rfl⟩ ⟨Nat.le_of_ble_eq_true rfl, Nat.le_of_ble_eq_true rfl⟩ rfl rfl rfl (As := [.int v2]) (rest := []) rfl rfl (Nat.le_of_ble_eq_true rfl) dX10_apart_7 ⟨Nat.zero_le _, Nat.zero_le _⟩ (fun H locs hW => ?_)
  show W p l e (rmq 3 63) s m args below meth c H locs 0 0 Q (F0 m 10 ls [])
  refine lv_aload_n hx hb dX10_apart_10 rfl (lv_at hl 0 rfl) ?_
  refine lv_iload_n hx hb dX10_apart_11 rfl (lv_at hl 3 rfl) ?_
  obtain ⟨x12, h12, hf⟩ := bd_of hf
  refine r_callV (k := ((0, 0) : Ky)) C hW hl lk_X10_182 (c_X10_needWorld hwf h12) ⟨rfl, rfl⟩ ⟨Nat.le_of_ble_eq_true rfl, Nat.le_of_ble_eq_true rfl⟩ rfl rfl rfl (As := [.int v3]) (rest := []) rfl rfl (Nat.le_of_ble_eq_true rfl) dX10_apart_12 ⟨Nat.zero_le _, Nat.zero_le _⟩ (fun H locs hW => ?_)
  show W p l e (rmq 3 63) s m args below meth c H locs 0 0 Q (F0 m 15 ls [])
  refine lv_aload_n hx hb dX10_apart_15 rfl (lv_at hl 0 rfl) ?_
  refine lv_iload_n hx hb dX10_apart_16 rfl (lv_at hl 2 rfl) ?_
  obtain ⟨x17, h17, hf⟩ := bd_of hf
  refine r_callV (k := ((0, 0) : Ky)) C hW hl lk_X10_188 (c_X10_needLeft hwf h17) ⟨rfl, rfl⟩ ⟨Nat.le_of_ble_eq_true rfl, Nat.le_of_ble_eq_true rfl⟩ rfl rfl rfl (As := [.int v2]) (rest := []) rfl rfl (Nat.le_of_ble_eq_true rfl) dX10_apart_17 ⟨Nat.zero_le _, Nat.zero_le _⟩ (fun H locs hW => ?_)
  show W p l e (rmq 3 63) s m args below meth c H locs 0 0 Q (F0 m 20 ls [])
  refine lv_aload_n hx hb dX10_apart_20 rfl (lv_at hl 0 rfl) ?_
  refine lv_iload_n hx hb dX10_apart_21 rfl (lv_at hl 3 rfl) ?_
  obtain ⟨x22, h22, hf⟩ := bd_of hf
  refine r_callV (k := ((0, 0) : Ky)) C hW hl lk_X10_188 (c_X10_needLeft hwf h22) ⟨rfl, rfl⟩ ⟨Nat.le_of_ble_eq_true rfl, Nat.le_of_ble_eq_true rfl⟩ rfl rfl rfl (As := [.int v3]) (rest := []) rfl rfl (Nat.le_of_ble_eq_true rfl) dX10_apart_22 ⟨Nat.zero_le _, Nat.zero_le _⟩ (fun H locs hW => ?_)
  show W p l e (rmq 3 63) s m args below meth c H locs 0 0 Q (F0 m 25 ls [])
  refine lv_aload_n hx hb dX10_apart_25 rfl (lv_at hl 0 rfl) ?_
  refine gf_X10_60 C hW dX10_apart_26 ?_
  obtain ⟨hq1, hf⟩ := ce_of hf
  refine lv_iload_n hx hb dX10_apart_29 rfl (lv_at hl 1 rfl) ?_
  refine lv_iload_n hx hb dX10_apart_30 rfl (lv_at hl 2 rfl) ?_
  obtain ⟨x31, h31, hf⟩ := bd_of hf
  refine r_callV (k := ((13, (μ (0, 0) 9).toNatClampNeg) : Ky)) C hW hl lk_X10_191 (c_X6_group hwf hq1 h31) ⟨rfl, rfl⟩ ⟨Nat.le_of_ble_eq_true rfl, Nat.le_of_ble_eq_true rfl⟩ rfl (faB_13 hq1) rfl (As := [.int v1, .int v2]) (rest := []) rfl rfl (Nat.le_of_ble_eq_true rfl) dX10_apart_31 ⟨Nat.zero_le _, Nat.zero_le _⟩ (fun H locs hW => ?_)
  show W p l e (rmq 3 63) s m args below meth c H locs 0 0 Q (F0 m 34 ls [.int x31])
  refine lv_aload_n hx hb dX10_apart_34 rfl (lv_at hl 0 rfl) ?_
  refine gf_X10_60 C hW dX10_apart_35 ?_
  obtain ⟨hq2, hf⟩ := ce_of hf
  refine lv_iload_n hx hb dX10_apart_38 rfl (lv_at hl 1 rfl) ?_
  refine lv_iload_n hx hb dX10_apart_39 rfl (lv_at hl 3 rfl) ?_
  obtain ⟨x40, h40, hf⟩ := bd_of hf
  refine r_callV (k := ((13, (μ (0, 0) 9).toNatClampNeg) : Ky)) C hW hl lk_X10_191 (c_X6_group hwf hq2 h40) ⟨rfl, rfl⟩ ⟨Nat.le_of_ble_eq_true rfl, Nat.le_of_ble_eq_true rfl⟩ rfl (faB_13 hq2) rfl (As := [.int v1, .int v3]) (rest := [.int x31]) rfl rfl (Nat.le_of_ble_eq_true rfl) dX10_apart_40 ⟨Nat.zero_le _, Nat.zero_le _⟩ (fun H locs hW => ?_)
  show W p l e (rmq 3 63) s m args below meth c H locs 0 0 Q (F0 m 43 ls [.int x40, .int x31])
  refine lv_icmp_eq (tgt := 50) hx hb dX10_apart_43 (by decide) (fun c3 => ?_) (fun c3 => ?_)
  · have hf := (if_pos c3).symm.trans hf
    refine lv_iconst (v := 0) hx hb dX10_apart_50 (by decide) ?_
    obtain rfl := Option.some.inj hf
    rw [hQ]
    exact r_zret C hr hk hW (Or.inl rfl) rfl rfl dX10_apart_51
  · have hf := (if_neg c3).symm.trans hf
    refine lv_iconst (v := 1) hx hb dX10_apart_46 (by decide) ?_
    refine lv_goto (tgt := 51) hx hb dX10_apart_47 (by decide) ?_
    obtain rfl := Option.some.inj hf
    rw [hQ]
    exact r_zret C hr hk hW (Or.inr rfl) rfl rfl dX10_apart_51
set_option maxHeartbeats 4000000 in
set_option maxRecDepth 100000 in
theorem c_X10_sure {l : Launch} {D : va_G} {tc : Nat → ClassId} {ro : Ro} {oa : Ky → Nat} {aa : Nat → Nat} {sh : Sh} {ln : Nat → Nat} {μ : Mm} {v1 v2 : Int32} {res : Int32} (hwf : WfS sh) (hf : f_X10_sure sh ln μ v1 v2 = some res) : Ct l D tc ro (faB oa aa sh) (feB tc oa aa sh ln) yX10_sure cX10_sure 3 (some .boolean) (rmq 4 96) [.ref (oa (0, 0)), .int v1, .int v2] μ (some (.int res)) μ := by
  refine Ct.of (by decide) (Nat.le_of_ble_eq_true rfl) (fun p e s m args below meth c A C hr hk hW ls hl => ?_)
  have hx := C.1.1
  have hb := C.1.2.1
  obtain ⟨Q, hQ⟩ : ∃ Q, Q = MQ below (Ctq D (faB oa aa sh) (feB tc oa aa sh ln) (some (.int res)) μ A) args s 0 0 A := ⟨_, rfl⟩
  rw [← hQ]
  have hl : lv_has ls 3 [(0, .ref (oa (0, 0))), (1, .int v1), (2, .int v2)] := hl
  unfold f_X10_sure at hf
  refine lv_aload_n hx hb dX10_sure_0 rfl (lv_at hl 0 rfl) ?_
  refine lv_iload_n hx hb dX10_sure_1 rfl (lv_at hl 1 rfl) ?_
  obtain ⟨x2, h2, hf⟩ := bd_of hf
  refine r_callV (k := ((0, 0) : Ky)) C hW hl lk_X10_141 (c_X10_needPerson hwf h2) ⟨rfl, rfl⟩ ⟨Nat.le_of_ble_eq_true rfl, Nat.le_of_ble_eq_true rfl⟩ rfl rfl rfl (As := [.int v1]) (rest := []) rfl rfl (Nat.le_of_ble_eq_true rfl) dX10_sure_2 ⟨Nat.zero_le _, Nat.zero_le _⟩ (fun H locs hW => ?_)
  show W p l e (rmq 4 96) s m args below meth c H locs 0 0 Q (F0 m 5 ls [])
  refine lv_aload_n hx hb dX10_sure_5 rfl (lv_at hl 0 rfl) ?_
  refine lv_iload_n hx hb dX10_sure_6 rfl (lv_at hl 2 rfl) ?_
  obtain ⟨x7, h7, hf⟩ := bd_of hf
  refine r_callV (k := ((0, 0) : Ky)) C hW hl lk_X10_182 (c_X10_needWorld hwf h7) ⟨rfl, rfl⟩ ⟨Nat.le_of_ble_eq_true rfl, Nat.le_of_ble_eq_true rfl⟩ rfl rfl rfl (As := [.int v2]) (rest := []) rfl rfl (Nat.le_of_ble_eq_true rfl) dX10_sure_7 ⟨Nat.zero_le _, Nat.zero_le _⟩ (fun H locs hW => ?_)
  show W p l e (rmq 4 96) s m args below meth c H locs 0 0 Q (F0 m 10 ls [])
  refine lv_aload_n hx hb dX10_sure_10 rfl (lv_at hl 0 rfl) ?_
  refine lv_iload_n hx hb dX10_sure_11 rfl (lv_at hl 2 rfl) ?_
  obtain ⟨x12, h12, hf⟩ := bd_of hf
  refine r_callV (k := ((0, 0) : Ky)) C hW hl lk_X10_188 (c_X10_needLeft hwf h12) ⟨rfl, rfl⟩ ⟨Nat.le_of_ble_eq_true rfl, Nat.le_of_ble_eq_true rfl⟩ rfl rfl rfl (As := [.int v2]) (rest := []) rfl rfl (Nat.le_of_ble_eq_true rfl) dX10_sure_12 ⟨Nat.zero_le _, Nat.zero_le _⟩ (fun H locs hW => ?_)
  show W p l e (rmq 4 96) s m args below meth c H locs 0 0 Q (F0 m 15 ls [])
  refine lv_aload_n hx hb dX10_sure_15 rfl (lv_at hl 0 rfl) ?_
  refine gf_X10_19 C hW dX10_sure_16 ?_
  refine lv_aload_n hx hb dX10_sure_19 rfl (lv_at hl 0 rfl) ?_
  refine gf_X10_60 C hW dX10_sure_20 ?_
  obtain ⟨hq1, hf⟩ := ce_of hf
  refine lv_aload_n hx hb dX10_sure_23 rfl (lv_at hl 0 rfl) ?_
  refine gf_X10_60 C hW dX10_sure_24 ?_
  obtain ⟨hq2, hf⟩ := ce_of hf
  refine gf_X10_163 C hW hq2 dX10_sure_27 ?_
  refine lv_iload_n hx hb dX10_sure_30 rfl (lv_at hl 1 rfl) ?_
  refine lv_iload_n hx hb dX10_sure_31 rfl (lv_at hl 2 rfl) ?_
  obtain ⟨x32, h32, hf⟩ := bd_of hf
  refine r_callV (k := ((3, 0) : Ky)) C hW hl lk_X10_166 (c_X4_isSure hwf hq1 (cex_st hq2 (by decide)) h32) ⟨rfl, rfl⟩ ⟨Nat.le_of_ble_eq_true rfl, Nat.le_of_ble_eq_true rfl⟩ rfl rfl rfl (As := [.ref (oa (13, (μ (0, 0) 9).toNatClampNeg)), .ref (oa (11, 15 + 5 * ((μ (0, 0) 9).toNatClampNeg) + 2)), .int v1, .int v2]) (rest := []) rfl rfl (Nat.le_of_ble_eq_true rfl) dX10_sure_32 ⟨Nat.zero_le _, Nat.zero_le _⟩ (fun H locs hW => ?_)
  show W p l e (rmq 4 96) s m args below meth c H locs 0 0 Q (F0 m 35 ls [.int x32])
  obtain ⟨hz3, hf⟩ := cb_of hf
  obtain rfl := Option.some.inj hf
  rw [hQ]
  exact r_zret C hr hk hW hz3 rfl rfl dX10_sure_35
set_option maxHeartbeats 4000000 in
set_option maxRecDepth 100000 in
theorem c_X10_needTwo {l : Launch} {D : va_G} {tc : Nat → ClassId} {ro : Ro} {oa : Ky → Nat} {aa : Nat → Nat} {sh : Sh} {ln : Nat → Nat} {μ : Mm} {v1 v2 : Int32} {res : Unit} (hf : f_X10_needTwo v1 v2 = some res) : Ct l D tc ro (faB oa aa sh) (feB tc oa aa sh ln) yX10_needTwo cX10_needTwo 3 none (rmq 0 0) [.ref (oa (0, 0)), .int v1, .int v2] μ none μ := by
  refine Ct.of (by decide) (Nat.le_of_ble_eq_true rfl) (fun p e s m args below meth c A C hr hk hW ls hl => ?_)
  have hx := C.1.1
  have hb := C.1.2.1
  obtain ⟨Q, hQ⟩ : ∃ Q, Q = MQ below (Ctq D (faB oa aa sh) (feB tc oa aa sh ln) none μ A) args s 0 0 A := ⟨_, rfl⟩
  rw [← hQ]
  have hl : lv_has ls 3 [(0, .ref (oa (0, 0))), (1, .int v1), (2, .int v2)] := hl
  unfold f_X10_needTwo at hf
  refine lv_iload_n hx hb dX10_needTwo_0 rfl (lv_at hl 1 rfl) ?_
  refine lv_iload_n hx hb dX10_needTwo_1 rfl (lv_at hl 2 rfl) ?_
  refine lv_icmp_ne (tgt := 16) hx hb dX10_needTwo_2 (by decide) (fun c1 => ?_) (fun c1 => ?_)
  · have hf := (if_neg c1).symm.trans hf
    obtain rfl := Option.some.inj hf
    rw [hQ]
    exact r_vret C hr hk hW rfl rfl dX10_needTwo_16
  · have hf := (if_pos c1).symm.trans hf
    cases hf
set_option maxHeartbeats 4000000 in
set_option maxRecDepth 100000 in
theorem c_X10_needSight {l : Launch} {D : va_G} {tc : Nat → ClassId} {ro : Ro} {oa : Ky → Nat} {aa : Nat → Nat} {sh : Sh} {ln : Nat → Nat} {μ : Mm} {v1 v2 : Int32} {res : Unit} (hwf : WfS sh) (hf : f_X10_needSight sh ln μ v1 v2 = some res) : Ct l D tc ro (faB oa aa sh) (feB tc oa aa sh ln) yX10_needSight cX10_needSight 3 none (rmq 2 43) [.ref (oa (0, 0)), .int v1, .int v2] μ none μ := by
  refine Ct.of (by decide) (Nat.le_of_ble_eq_true rfl) (fun p e s m args below meth c A C hr hk hW ls hl => ?_)
  have hx := C.1.1
  have hb := C.1.2.1
  obtain ⟨Q, hQ⟩ : ∃ Q, Q = MQ below (Ctq D (faB oa aa sh) (feB tc oa aa sh ln) none μ A) args s 0 0 A := ⟨_, rfl⟩
  rw [← hQ]
  have hl : lv_has ls 3 [(0, .ref (oa (0, 0))), (1, .int v1), (2, .int v2)] := hl
  unfold f_X10_needSight at hf
  refine lv_aload_n hx hb dX10_needSight_0 rfl (lv_at hl 0 rfl) ?_
  refine gf_X10_60 C hW dX10_needSight_1 ?_
  obtain ⟨hq1, hf⟩ := ce_of hf
  refine lv_iload_n hx hb dX10_needSight_4 rfl (lv_at hl 1 rfl) ?_
  refine lv_iload_n hx hb dX10_needSight_5 rfl (lv_at hl 2 rfl) ?_
  obtain ⟨x6, h6, hf⟩ := bd_of hf
  refine r_callV (k := ((13, (μ (0, 0) 9).toNatClampNeg) : Ky)) C hW hl lk_X10_424 (c_X6_hasSight hwf hq1 h6) ⟨rfl, rfl⟩ ⟨Nat.le_of_ble_eq_true rfl, Nat.le_of_ble_eq_true rfl⟩ rfl (faB_13 hq1) rfl (As := [.int v1, .int v2]) (rest := []) rfl rfl (Nat.le_of_ble_eq_true rfl) dX10_needSight_6 ⟨Nat.zero_le _, Nat.zero_le _⟩ (fun H locs hW => ?_)
  show W p l e (rmq 2 43) s m args below meth c H locs 0 0 Q (F0 m 9 ls [.int x6])
  refine lv_if_ne (tgt := 23) hx hb dX10_needSight_9 (by decide) (fun c2 => ?_) (fun c2 => ?_)
  · have hf := (if_neg c2).symm.trans hf
    obtain rfl := Option.some.inj hf
    rw [hQ]
    exact r_vret C hr hk hW rfl rfl dX10_needSight_23
  · have hf := (if_pos c2).symm.trans hf
    cases hf
set_option maxHeartbeats 4000000 in
set_option maxRecDepth 100000 in
theorem c_X10_manner {l : Launch} {D : va_G} {tc : Nat → ClassId} {ro : Ro} {oa : Ky → Nat} {aa : Nat → Nat} {sh : Sh} {ln : Nat → Nat} {μ : Mm} {v1 v2 v3 : Int32} {res : Int32 × Mm} (hwf : WfS sh) (hf : f_X10_manner sh ln μ v1 v2 v3 = some res) : Ct l D tc ro (faB oa aa sh) (feB tc oa aa sh ln) yX10_manner cX10_manner 4 (some .int) (rmq 5 118) [.ref (oa (0, 0)), .int v1, .int v2, .int v3] μ (some (.int res.1)) res.2 := by
  refine Ct.of (by decide) (Nat.le_of_ble_eq_true rfl) (fun p e s m args below meth c A C hr hk hW ls hl => ?_)
  have hx := C.1.1
  have hb := C.1.2.1
  obtain ⟨Q, hQ⟩ : ∃ Q, Q = MQ below (Ctq D (faB oa aa sh) (feB tc oa aa sh ln) (some (.int res.1)) res.2 A) args s 0 0 A := ⟨_, rfl⟩
  rw [← hQ]
  have hl : lv_has ls 4 [(0, .ref (oa (0, 0))), (1, .int v1), (2, .int v2), (3, .int v3)] := hl
  unfold f_X10_manner at hf
  refine lv_aload_n hx hb dX10_manner_0 rfl (lv_at hl 0 rfl) ?_
  refine lv_iload_n hx hb dX10_manner_1 rfl (lv_at hl 1 rfl) ?_
  obtain ⟨x2, h2, hf⟩ := bd_of hf
  refine r_callV (k := ((0, 0) : Ky)) C hW hl lk_X10_141 (c_X10_needPerson hwf h2) ⟨rfl, rfl⟩ ⟨Nat.le_of_ble_eq_true rfl, Nat.le_of_ble_eq_true rfl⟩ rfl rfl rfl (As := [.int v1]) (rest := []) rfl rfl (Nat.le_of_ble_eq_true rfl) dX10_manner_2 ⟨Nat.zero_le _, Nat.zero_le _⟩ (fun H locs hW => ?_)
  show W p l e (rmq 5 118) s m args below meth c H locs 0 0 Q (F0 m 5 ls [])
  refine lv_aload_n hx hb dX10_manner_5 rfl (lv_at hl 0 rfl) ?_
  refine lv_iload_n hx hb dX10_manner_6 rfl (lv_at hl 2 rfl) ?_
  obtain ⟨x7, h7, hf⟩ := bd_of hf
  refine r_callV (k := ((0, 0) : Ky)) C hW hl lk_X10_141 (c_X10_needPerson hwf h7) ⟨rfl, rfl⟩ ⟨Nat.le_of_ble_eq_true rfl, Nat.le_of_ble_eq_true rfl⟩ rfl rfl rfl (As := [.int v2]) (rest := []) rfl rfl (Nat.le_of_ble_eq_true rfl) dX10_manner_7 ⟨Nat.zero_le _, Nat.zero_le _⟩ (fun H locs hW => ?_)
  show W p l e (rmq 5 118) s m args below meth c H locs 0 0 Q (F0 m 10 ls [])
  refine lv_aload_n hx hb dX10_manner_10 rfl (lv_at hl 0 rfl) ?_
  refine lv_iload_n hx hb dX10_manner_11 rfl (lv_at hl 3 rfl) ?_
  obtain ⟨x12, h12, hf⟩ := bd_of hf
  refine r_callV (k := ((0, 0) : Ky)) C hW hl lk_X10_182 (c_X10_needWorld hwf h12) ⟨rfl, rfl⟩ ⟨Nat.le_of_ble_eq_true rfl, Nat.le_of_ble_eq_true rfl⟩ rfl rfl rfl (As := [.int v3]) (rest := []) rfl rfl (Nat.le_of_ble_eq_true rfl) dX10_manner_12 ⟨Nat.zero_le _, Nat.zero_le _⟩ (fun H locs hW => ?_)
  show W p l e (rmq 5 118) s m args below meth c H locs 0 0 Q (F0 m 15 ls [])
  refine lv_aload_n hx hb dX10_manner_15 rfl (lv_at hl 0 rfl) ?_
  refine lv_iload_n hx hb dX10_manner_16 rfl (lv_at hl 1 rfl) ?_
  refine lv_iload_n hx hb dX10_manner_17 rfl (lv_at hl 2 rfl) ?_
  obtain ⟨x18, h18, hf⟩ := bd_of hf
  refine r_callV (k := ((0, 0) : Ky)) C hW hl lk_X10_194 (c_X10_needTwo h18) ⟨rfl, rfl⟩ ⟨Nat.le_of_ble_eq_true rfl, Nat.le_of_ble_eq_true rfl⟩ rfl rfl rfl (As := [.int v1, .int v2]) (rest := []) rfl rfl (Nat.le_of_ble_eq_true rfl) dX10_manner_18 ⟨Nat.zero_le _, Nat.zero_le _⟩ (fun H locs hW => ?_)
  show W p l e (rmq 5 118) s m args below meth c H locs 0 0 Q (F0 m 21 ls [])
  refine lv_aload_n hx hb dX10_manner_21 rfl (lv_at hl 0 rfl) ?_
  refine lv_iload_n hx hb dX10_manner_22 rfl (lv_at hl 3 rfl) ?_
  obtain ⟨x23, h23, hf⟩ := bd_of hf
  refine r_callV (k := ((0, 0) : Ky)) C hW hl lk_X10_188 (c_X10_needLeft hwf h23) ⟨rfl, rfl⟩ ⟨Nat.le_of_ble_eq_true rfl, Nat.le_of_ble_eq_true rfl⟩ rfl rfl rfl (As := [.int v3]) (rest := []) rfl rfl (Nat.le_of_ble_eq_true rfl) dX10_manner_23 ⟨Nat.zero_le _, Nat.zero_le _⟩ (fun H locs hW => ?_)
  show W p l e (rmq 5 118) s m args below meth c H locs 0 0 Q (F0 m 26 ls [])
  refine lv_aload_n hx hb dX10_manner_26 rfl (lv_at hl 0 rfl) ?_
  refine lv_iload_n hx hb dX10_manner_27 rfl (lv_at hl 1 rfl) ?_
  refine lv_iload_n hx hb dX10_manner_28 rfl (lv_at hl 2 rfl) ?_
  obtain ⟨x29, h29, hf⟩ := bd_of hf
  refine r_callV (k := ((0, 0) : Ky)) C hW hl lk_X10_198 (c_X10_needSight hwf h29) ⟨rfl, rfl⟩ ⟨Nat.le_of_ble_eq_true rfl, Nat.le_of_ble_eq_true rfl⟩ rfl rfl rfl (As := [.int v1, .int v2]) (rest := []) rfl rfl (Nat.le_of_ble_eq_true rfl) dX10_manner_29 ⟨Nat.zero_le _, Nat.zero_le _⟩ (fun H locs hW => ?_)
  show W p l e (rmq 5 118) s m args below meth c H locs 0 0 Q (F0 m 32 ls [])
  refine lv_aload_n hx hb dX10_manner_32 rfl (lv_at hl 0 rfl) ?_
  refine gf_X10_19 C hW dX10_manner_33 ?_
  refine lv_aload_n hx hb dX10_manner_36 rfl (lv_at hl 0 rfl) ?_
  refine gf_X10_60 C hW dX10_manner_37 ?_
  obtain ⟨hq1, hf⟩ := ce_of hf
  refine lv_iload_n hx hb dX10_manner_40 rfl (lv_at hl 1 rfl) ?_
  refine lv_iload_n hx hb dX10_manner_41 rfl (lv_at hl 2 rfl) ?_
  obtain ⟨x42, h42, hf⟩ := bd_of hf
  refine r_callV (k := ((3, 0) : Ky)) C hW hl lk_X10_201 (c_X4_meet hwf hq1 h42) ⟨rfl, rfl⟩ ⟨Nat.le_of_ble_eq_true rfl, Nat.le_of_ble_eq_true rfl⟩ rfl rfl rfl (As := [.ref (oa (13, (μ (0, 0) 9).toNatClampNeg)), .int v1, .int v2]) (rest := []) rfl rfl (Nat.le_of_ble_eq_true rfl) dX10_manner_42 ⟨Nat.zero_le _, Nat.zero_le _⟩ (fun H locs hW => ?_)
  show W p l e (rmq 5 118) s m args below meth c H locs 0 0 Q (F0 m 45 ls [])
  refine lv_aload_n hx hb dX10_manner_45 rfl (lv_at hl 0 rfl) ?_
  refine gf_X10_19 C hW dX10_manner_46 ?_
  refine lv_iload_n hx hb dX10_manner_49 rfl (lv_at hl 3 rfl) ?_
  obtain ⟨x50, h50, hf⟩ := bd_of hf
  refine r_callV (k := ((3, 0) : Ky)) C hW hl lk_X10_205 (c_X4_mannerIn hwf h50) ⟨rfl, rfl⟩ ⟨Nat.le_of_ble_eq_true rfl, Nat.le_of_ble_eq_true rfl⟩ rfl rfl rfl (As := [.int v3]) (rest := []) rfl rfl (Nat.le_of_ble_eq_true rfl) dX10_manner_50 ⟨Nat.zero_le _, Nat.zero_le _⟩ (fun H locs hW => ?_)
  show W p l e (rmq 5 118) s m args below meth c H locs 0 0 Q (F0 m 53 ls [.int x50])
  obtain rfl := Option.some.inj hf
  rw [hQ]
  exact r_iret C hr hk hW rfl rfl dX10_manner_53
set_option maxHeartbeats 4000000 in
set_option maxRecDepth 100000 in
theorem c_X10_pastAt {l : Launch} {D : va_G} {tc : Nat → ClassId} {ro : Ro} {oa : Ky → Nat} {aa : Nat → Nat} {sh : Sh} {ln : Nat → Nat} {μ : Mm} {v1 : Int32} {res : Nat × Mm} (hwf : WfS sh) (hf : f_X10_pastAt sh ln μ v1 = some res) : Ct l D tc ro (faB oa aa sh) (feB tc oa aa sh ln) yX10_pastAt cX10_pastAt 2 (some (.object "BackVillage$State")) (rmq 3 62) [.ref (oa (0, 0)), .int v1] μ (some (.ref (oa (13, res.1)))) res.2 := by
  refine Ct.of (by decide) (Nat.le_of_ble_eq_true rfl) (fun p e s m args below meth c A C hr hk hW ls hl => ?_)
  have hx := C.1.1
  have hb := C.1.2.1
  obtain ⟨Q, hQ⟩ : ∃ Q, Q = MQ below (Ctq D (faB oa aa sh) (feB tc oa aa sh ln) (some (.ref (oa (13, res.1)))) res.2 A) args s 0 0 A := ⟨_, rfl⟩
  rw [← hQ]
  have hl : lv_has ls 2 [(0, .ref (oa (0, 0))), (1, .int v1)] := hl
  unfold f_X10_pastAt at hf
  refine lv_iload_n hx hb dX10_pastAt_0 rfl (lv_at hl 1 rfl) ?_
  refine lv_if_lt (tgt := 13) hx hb dX10_pastAt_1 (by decide) (fun c1 => ?_) (fun c1 => ?_)
  · have hf := (if_pos c1).symm.trans hf
    refine lv_aload_n hx hb dX10_pastAt_13 rfl (lv_at hl 0 rfl) ?_
    refine gf_X10_64 C hW dX10_pastAt_14 ?_
    obtain ⟨hq2, hf⟩ := ce_of hf
    obtain rfl := Option.some.inj hf
    rw [hQ]
    exact r_aret C hr hk hW rfl rfl dX10_pastAt_17
  · have hf := (if_neg c1).symm.trans hf
    refine lv_iload_n hx hb dX10_pastAt_4 rfl (lv_at hl 1 rfl) ?_
    refine lv_aload_n hx hb dX10_pastAt_5 rfl (lv_at hl 0 rfl) ?_
    refine gf_X10_55 C hW dX10_pastAt_6 ?_
    refine r_alen (k := ((1, 0) : Ky)) (t := 3) (v := (8 : Int32)) C hW rfl rfl rfl rfl dX10_pastAt_9 ?_
    refine lv_icmp_lt (tgt := 18) hx hb dX10_pastAt_10 (by decide) (fun c3 => ?_) (fun c3 => ?_)
    · have hf := (if_pos c3).symm.trans hf
      refine lv_aload_n hx hb dX10_pastAt_18 rfl (lv_at hl 0 rfl) ?_
      refine gf_X10_55 C hW dX10_pastAt_19 ?_
      refine lv_iload_n hx hb dX10_pastAt_22 rfl (lv_at hl 1 rfl) ?_
      obtain ⟨hi4, hf⟩ := ck_of hf
      by_cases q4 : sh 2 (2 + v1.toNatClampNeg) = 0
      · have hf := (if_pos q4).symm.trans hf
        refine r_aaldN C hW q4 hi4 dX10_pastAt_23 ?_
        refine lv_ifnonnullN hx hb dX10_pastAt_24 ?_
        refine lv_aload_n hx hb dX10_pastAt_27 rfl (lv_at hl 0 rfl) ?_
        refine gf_X10_55 C hW dX10_pastAt_28 ?_
        refine lv_iload_n hx hb dX10_pastAt_31 rfl (lv_at hl 1 rfl) ?_
        cases hf
      · have hf := (if_neg q4).symm.trans hf
        refine r_aald C hW q4 hi4 dX10_pastAt_23 ?_
        refine lv_ifnonnull (tgt := 40) hx hb dX10_pastAt_24 (by decide) ?_
        refine lv_aload_n hx hb dX10_pastAt_40 rfl (lv_at hl 0 rfl) ?_
        refine gf_X10_55 C hW dX10_pastAt_41 ?_
        refine lv_iload_n hx hb dX10_pastAt_44 rfl (lv_at hl 1 rfl) ?_
        obtain ⟨hi5, hf⟩ := ck_of hf
        by_cases q5 : sh 2 (2 + v1.toNatClampNeg) = 0
        · have hf := (if_pos q5).symm.trans hf
          refine r_aaldN C hW q5 hi5 dX10_pastAt_45 ?_
          cases hf
        · have hf := (if_neg q5).symm.trans hf
          refine r_aald C hW q5 hi5 dX10_pastAt_45 ?_
          obtain rfl := Option.some.inj hf
          rw [hQ]
          exact r_aret C hr hk hW rfl rfl dX10_pastAt_46
    · have hf := (if_neg c3).symm.trans hf
      refine lv_aload_n hx hb dX10_pastAt_13 rfl (lv_at hl 0 rfl) ?_
      refine gf_X10_64 C hW dX10_pastAt_14 ?_
      obtain ⟨hq6, hf⟩ := ce_of hf
      obtain rfl := Option.some.inj hf
      rw [hQ]
      exact r_aret C hr hk hW rfl rfl dX10_pastAt_17
set_option maxHeartbeats 4000000 in
set_option maxRecDepth 100000 in
theorem c_X10_remember {l : Launch} {D : va_G} {tc : Nat → ClassId} {ro : Ro} {oa : Ky → Nat} {aa : Nat → Nat} {sh : Sh} {ln : Nat → Nat} {μ : Mm} {res : Mm} (hwf : WfS sh) (hf : f_X10_remember sh ln μ = some res) : Ct l D tc ro (faB oa aa sh) (feB tc oa aa sh ln) yX10_remember cX10_remember 2 none (rmq 4 104) [.ref (oa (0, 0))] μ none res := by
  refine Ct.of (by decide) (Nat.le_of_ble_eq_true rfl) (fun p e s m args below meth c A C hr hk hW ls hl => ?_)
  have hx := C.1.1
  have hb := C.1.2.1
  obtain ⟨Q, hQ⟩ : ∃ Q, Q = MQ below (Ctq D (faB oa aa sh) (feB tc oa aa sh ln) none res A) args s 0 0 A := ⟨_, rfl⟩
  rw [← hQ]
  have hl : lv_has ls 2 [(0, .ref (oa (0, 0)))] := hl
  unfold f_X10_remember at hf
  refine lv_aload_n hx hb dX10_remember_0 rfl (lv_at hl 0 rfl) ?_
  refine lv_aload_n hx hb dX10_remember_1 rfl (lv_at hl 0 rfl) ?_
  refine gf_X10_367 C hW dX10_remember_2 ?_
  obtain ⟨x5, h5, hf⟩ := bd_of hf
  refine r_callV (k := ((0, 0) : Ky)) C hW hl lk_X10_370 (c_X10_pastAt hwf h5) ⟨rfl, rfl⟩ ⟨Nat.le_of_ble_eq_true rfl, Nat.le_of_ble_eq_true rfl⟩ rfl rfl rfl (As := [.int (μ (0, 0) 7)]) (rest := []) rfl rfl (Nat.le_of_ble_eq_true rfl) dX10_remember_5 ⟨Nat.zero_le _, Nat.zero_le _⟩ (fun H locs hW => ?_)
  show W p l e (rmq 4 104) s m args below meth c H locs 0 0 Q (F0 m 8 ls [.ref (oa (13, x5.1))])
  obtain ⟨hq1, hf⟩ := ce_of hf
  refine lv_astore_n (lv' := [(1, .ref (oa (13, x5.1))), (0, .ref (oa (0, 0)))]) hx hb dX10_remember_8 rfl hl (by decide) rfl (fun ls hl => ?_)
  refine lv_aload_n hx hb dX10_remember_9 rfl (lv_at hl 0 rfl) ?_
  refine lv_aload_n hx hb dX10_remember_10 rfl (lv_at hl 1 rfl) ?_
  refine gf_X10_60 C hW dX10_remember_11 ?_
  obtain ⟨hq2, hf⟩ := ce_of hf
  obtain ⟨x14, h14, hf⟩ := bd_of hf
  refine r_callV (k := ((13, x5.1) : Ky)) C hW hl lk_X10_89 (c_X6_become hwf hq1 hq2 h14) ⟨rfl, rfl⟩ ⟨Nat.le_of_ble_eq_true rfl, Nat.le_of_ble_eq_true rfl⟩ rfl (faB_13 hq1) rfl (As := [.ref (oa (13, (x5.2 (0, 0) 9).toNatClampNeg))]) (rest := []) rfl rfl (Nat.le_of_ble_eq_true rfl) dX10_remember_14 ⟨Nat.zero_le _, Nat.zero_le _⟩ (fun H locs hW => ?_)
  show W p l e (rmq 4 104) s m args below meth c H locs 0 0 Q (F0 m 17 ls [])
  refine lv_aload_n hx hb dX10_remember_17 rfl (lv_at hl 1 rfl) ?_
  refine lv_aload_n hx hb dX10_remember_18 rfl (lv_at hl 1 rfl) ?_
  refine gf_X10_367 C hW dX10_remember_19 ?_
  refine lv_iconst (v := 1) hx hb dX10_remember_22 (by decide) ?_
  refine lv_iadd hx hb dX10_remember_23 ?_
  refine lv_bipush (v := 8) hx hb dX10_remember_24 (by decide) ?_
  refine lv_icmp_ge (tgt := 38) hx hb dX10_remember_26 (by decide) (fun c3 => ?_) (fun c3 => ?_)
  · have hf := (if_pos c3).symm.trans hf
    refine lv_iconst (v := 0) hx hb dX10_remember_38 (by decide) ?_
    refine pf_X10_367 C hW dX10_remember_39 (fun H locs hW => ?_)
    refine lv_aload_n hx hb dX10_remember_42 rfl (lv_at hl 1 rfl) ?_
    refine lv_aload_n hx hb dX10_remember_43 rfl (lv_at hl 1 rfl) ?_
    refine gf_X10_364 C hW dX10_remember_44 ?_
    refine lv_iconst (v := 1) hx hb dX10_remember_47 (by decide) ?_
    refine lv_iadd hx hb dX10_remember_48 ?_
    refine lv_bipush (v := 8) hx hb dX10_remember_49 (by decide) ?_
    refine r_mmin C hl kw_581 kw_560 kw_140 kw_561 (Nat.le_of_ble_eq_true rfl) (Nat.le_of_ble_eq_true rfl) ⟨Nat.zero_le _, Nat.zero_le _⟩ dX10_remember_51 ?_
    refine pf_X10_364 C hW dX10_remember_54 (fun H locs hW => ?_)
    obtain ⟨μ4, hm4, hf⟩ := bd_of hf
    rw [Option.some.inj hm4] at hW
    refine lv_aload_n hx hb dX10_remember_57 rfl (lv_at hl 1 rfl) ?_
    refine gf_X10_60 C hW dX10_remember_58 ?_
    obtain ⟨hq5, hf⟩ := ce_of hf
    refine lv_iconst (v := 1) hx hb dX10_remember_61 (by decide) ?_
    refine pf_X10_374 C hW hq5 rfl rfl dX10_remember_62 (fun H locs hW => ?_)
    obtain rfl := Option.some.inj hf
    rw [hQ]
    exact r_vret C hr hk hW rfl rfl dX10_remember_65
  · have hf := (if_neg c3).symm.trans hf
    refine lv_aload_n hx hb dX10_remember_29 rfl (lv_at hl 1 rfl) ?_
    refine gf_X10_367 C hW dX10_remember_30 ?_
    refine lv_iconst (v := 1) hx hb dX10_remember_33 (by decide) ?_
    refine lv_iadd hx hb dX10_remember_34 ?_
    refine lv_goto (tgt := 39) hx hb dX10_remember_35 (by decide) ?_
    refine pf_X10_367 C hW dX10_remember_39 (fun H locs hW => ?_)
    refine lv_aload_n hx hb dX10_remember_42 rfl (lv_at hl 1 rfl) ?_
    refine lv_aload_n hx hb dX10_remember_43 rfl (lv_at hl 1 rfl) ?_
    refine gf_X10_364 C hW dX10_remember_44 ?_
    refine lv_iconst (v := 1) hx hb dX10_remember_47 (by decide) ?_
    refine lv_iadd hx hb dX10_remember_48 ?_
    refine lv_bipush (v := 8) hx hb dX10_remember_49 (by decide) ?_
    refine r_mmin C hl kw_581 kw_560 kw_140 kw_561 (Nat.le_of_ble_eq_true rfl) (Nat.le_of_ble_eq_true rfl) ⟨Nat.zero_le _, Nat.zero_le _⟩ dX10_remember_51 ?_
    refine pf_X10_364 C hW dX10_remember_54 (fun H locs hW => ?_)
    obtain ⟨μ6, hm6, hf⟩ := bd_of hf
    rw [Option.some.inj hm6] at hW
    refine lv_aload_n hx hb dX10_remember_57 rfl (lv_at hl 1 rfl) ?_
    refine gf_X10_60 C hW dX10_remember_58 ?_
    obtain ⟨hq7, hf⟩ := ce_of hf
    refine lv_iconst (v := 1) hx hb dX10_remember_61 (by decide) ?_
    refine pf_X10_374 C hW hq7 rfl rfl dX10_remember_62 (fun H locs hW => ?_)
    obtain rfl := Option.some.inj hf
    rw [hQ]
    exact r_vret C hr hk hW rfl rfl dX10_remember_65
