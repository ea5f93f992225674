set_option maxHeartbeats 4000000 in
set_option maxRecDepth 100000 in
theorem c_X8_isWord_1 {l : Launch} {D : va_G} {tc : Nat → ClassId} {ro : Ro} {oa : Ky → Nat} {aa : Nat → Nat} {sh : Sh} {ln : Nat → Nat} {w3 : Nat} {μ : Mm} {v1 v2 : Int32} {res : Int32} (hwf : WfS sh) (hw3 : w3 < nS) (hf : f_X8_isWord_1 sh ln w3 μ v1 v2 = some res) : Ct l D tc ro (faB oa aa sh) (feB tc oa aa sh ln) yX8_isWord cX8_isWord 5 (some .boolean) (rmq 4 85) [.ref (oa (6, 1)), .int v1, .int v2, .ref (ro.1 w3)] μ (some (.int res)) μ := by
  refine Ct.of (by decide) (Nat.le_of_ble_eq_true rfl) (fun p e s m args below meth c A C hr hk hW ls hl => ?_)
  have hx := C.1.1
  have hb := C.1.2.1
  obtain ⟨Q, hQ⟩ : ∃ Q, Q = MQ below (Ctq D (faB oa aa sh) (feB tc oa aa sh ln) (some (.int res)) μ A) args s 0 0 A := ⟨_, rfl⟩
  rw [← hQ]
  have hl : lv_has ls 5 [(0, .ref (oa (6, 1))), (1, .int v1), (2, .int v2), (3, .ref (ro.1 w3))] := hl
  unfold f_X8_isWord_1 at hf
  refine lv_iload_n hx hb dX8_isWord_0 rfl (lv_at hl 2 rfl) ?_
  refine lv_iload_n hx hb dX8_isWord_1 rfl (lv_at hl 1 rfl) ?_
  refine lv_isub hx hb dX8_isWord_2 ?_
  refine lv_aload_n hx hb dX8_isWord_3 rfl (lv_at hl 3 rfl) ?_
  refine r_callVx C hW hl lk_X8_134 (c_J0_length hw3) ⟨rfl, rfl⟩ ⟨Nat.le_of_ble_eq_true rfl, Nat.le_of_ble_eq_true rfl⟩ (vk_recv (i := 0) (C.2.2.1.1 _ hw3) (by decide) hW.2.1) (As := []) (rest := [.int (v2 - v1)]) rfl rfl (Nat.le_of_ble_eq_true rfl) dX8_isWord_4 ⟨Nat.zero_le _, Nat.zero_le _⟩ (fun H locs hW => ?_)
  show W p l e (rmq 4 85) s m args below meth c H locs 0 0 Q (F0 m 7 ls [.int (nI (lenS w3)), .int (v2 - v1)])
  refine lv_icmp_eq (tgt := 12) hx hb dX8_isWord_7 (by decide) (fun c1 => ?_) (fun c1 => ?_)
  · have hf := (if_pos c1).symm.trans hf
    refine lv_iconst (v := 0) hx hb dX8_isWord_12 (by decide) ?_
    refine lv_istore (lv' := [(4, .int (0 : Int32)), (0, .ref (oa (6, 1))), (1, .int v1), (2, .int v2), (3, .ref (ro.1 w3))]) hx hb dX8_isWord_13 hl (by decide) rfl (fun ls hl => ?_)
    have L15 : ∀ (v4 : Int32) (H : Heap) (locs : List Loc) (ls : Array Slot), Wh (fun z : Int32 => f_X8_isWord_1_L15 sh ln w3 v1 μ z) (v4) = some res → Wd D (faB oa aa sh) (feB tc oa aa sh ln) A s.heap μ H locs → lv_has ls 5 [(0, .ref (oa (6, 1))), (1, .int v1), (3, .ref (ro.1 w3)), (4, .int v4)] → W p l e (rmq 4 85) s m args below meth c H locs 0 0 Q (F0 m 15 ls []) := by
      intro v4 H locs ls hf hW hl
      refine Wh_rule hf (fun z : Int32 => ∀ (H : Heap) (locs : List Loc) (ls : Array Slot), Wd D (faB oa aa sh) (feB tc oa aa sh ln) A s.heap μ H locs → lv_has ls 5 [(0, .ref (oa (6, 1))), (1, .int v1), (3, .ref (ro.1 w3)), (4, .int z)] → W p l e (rmq 4 85) s m args below meth c H locs 0 0 Q (F0 m 15 ls [])) (fun z o1 hf Kl1 Kr1 => ?_) _ _ _ hW hl
      obtain ⟨v4, ez⟩ : ∃ q, q = z := ⟨_, rfl⟩
      subst ez
      intro H locs ls hW hl
      have hf : f_X8_isWord_1_L15 sh ln w3 v1 μ v4 = some o1 := hf
      unfold f_X8_isWord_1_L15 at hf
      have hW : Wd D (faB oa aa sh) (feB tc oa aa sh ln) A s.heap μ H locs := hW
      have hl : lv_has ls 5 [(0, .ref (oa (6, 1))), (1, .int v1), (3, .ref (ro.1 w3)), (4, .int v4)] := hl
      refine lv_iload hx hb dX8_isWord_15 (lv_at hl 3 rfl) ?_
      refine lv_aload_n hx hb dX8_isWord_17 rfl (lv_at hl 2 rfl) ?_
      refine r_callVx C hW hl lk_X8_134 (c_J0_length hw3) ⟨rfl, rfl⟩ ⟨Nat.le_of_ble_eq_true rfl, Nat.le_of_ble_eq_true rfl⟩ (vk_recv (i := 0) (C.2.2.1.1 _ hw3) (by decide) hW.2.1) (As := []) (rest := [.int v4]) rfl rfl (Nat.le_of_ble_eq_true rfl) dX8_isWord_18 ⟨Nat.zero_le _, Nat.zero_le _⟩ (fun H locs hW => ?_)
      show W p l e (rmq 4 85) s m args below meth c H locs 0 0 Q (F0 m 21 ls [.int (nI (lenS w3)), .int v4])
      refine lv_icmp_ge (tgt := 49) hx hb dX8_isWord_21 (by decide) (fun c2 => ?_) (fun c2 => ?_)
      · have hf := (if_pos c2).symm.trans hf
        obtain ⟨x9003, hf, hx9003⟩ := map_of hf
        have e9003 := (Kr1 _ hx9003.symm).symm
        subst e9003
        refine lv_iconst (v := 1) hx hb dX8_isWord_49 (by decide) ?_
        obtain rfl := Option.some.inj hf
        rw [hQ]
        exact r_zret C hr hk hW (Or.inr rfl) rfl rfl dX8_isWord_50
      · have hf := (if_neg c2).symm.trans hf
        refine lv_aload_n hx hb dX8_isWord_24 rfl (lv_at hl 0 rfl) ?_
        refine lv_iload_n hx hb dX8_isWord_25 rfl (lv_at hl 1 rfl) ?_
        refine lv_iload hx hb dX8_isWord_26 (lv_at hl 3 rfl) ?_
        refine lv_iadd hx hb dX8_isWord_28 ?_
        obtain ⟨x29, h29, hf⟩ := bd_of hf
        refine r_callVU (k := ((6, 1) : Ky)) C hW hl lk_X8_58_1 (c_X8_byteAt_1 hwf h29) ⟨rfl, rfl⟩ ⟨Nat.le_of_ble_eq_true rfl, Nat.le_of_ble_eq_true rfl⟩ rfl rfl rfl (As := [.int (v1 + v4)]) (rest := []) rfl rfl (Nat.le_of_ble_eq_true rfl) dX8_isWord_29 ⟨Nat.zero_le _, Nat.zero_le _⟩ (fun H locs hW => ?_)
        show W p l e (rmq 4 85) s m args below meth c H locs 0 0 Q (F0 m 32 ls [.int x29])
        refine lv_aload_n hx hb dX8_isWord_32 rfl (lv_at hl 2 rfl) ?_
        refine lv_iload hx hb dX8_isWord_33 (lv_at hl 3 rfl) ?_
        obtain ⟨hi4, hf⟩ := ck_of hf
        refine r_callVx C hW hl lk_X8_139 (c_J0_charAt hw3 hi4) ⟨rfl, rfl⟩ ⟨Nat.le_of_ble_eq_true rfl, Nat.le_of_ble_eq_true rfl⟩ (vk_recv (i := 0) (C.2.2.1.1 _ hw3) (by decide) hW.2.1) (As := [.int v4]) (rest := [.int x29]) rfl rfl (Nat.le_of_ble_eq_true rfl) dX8_isWord_35 ⟨Nat.zero_le _, Nat.zero_le _⟩ (fun H locs hW => ?_)
        show W p l e (rmq 4 85) s m args below meth c H locs 0 0 Q (F0 m 38 ls [.int ((bytS w3).getD v4.toNatClampNeg 0), .int x29])
        refine lv_icmp_eq (tgt := 43) hx hb dX8_isWord_38 (by decide) (fun c5 => ?_) (fun c5 => ?_)
        · have hf := (if_pos c5).symm.trans hf
          refine lv_iinc (v := (v4 + (1 : Int32))) (lv' := [(4, .int (v4 + (1 : Int32))), (0, .ref (oa (6, 1))), (1, .int v1), (3, .ref (ro.1 w3))]) hx hb dX8_isWord_43 hl (k := 3) rfl rfl (by decide) rfl (fun ls hl => ?_)
          refine lv_goto (tgt := 15) hx hb dX8_isWord_46 (by decide) ?_
          obtain rfl := Option.some.inj hf
          exact Kl1 _ rfl _ _ _ hW (lv_sub hl [1, 2, 3, 0] rfl)
        · have hf := (if_neg c5).symm.trans hf
          obtain ⟨x9006, hf, hx9006⟩ := map_of hf
          have e9006 := (Kr1 _ hx9006.symm).symm
          subst e9006
          refine lv_iconst (v := 0) hx hb dX8_isWord_41 (by decide) ?_
          obtain rfl := Option.some.inj hf
          rw [hQ]
          exact r_zret C hr hk hW (Or.inl rfl) rfl rfl dX8_isWord_42
    exact L15 (0 : Int32) _ _ _ hf hW (lv_sub hl [1, 2, 4, 0] rfl)
  · have hf := (if_neg c1).symm.trans hf
    refine lv_iconst (v := 0) hx hb dX8_isWord_10 (by decide) ?_
    obtain rfl := Option.some.inj hf
    rw [hQ]
    exact r_zret C hr hk hW (Or.inl rfl) rfl rfl dX8_isWord_11
set_option maxHeartbeats 4000000 in
set_option maxRecDepth 100000 in
theorem c_X8_kindOfWord_1 {l : Launch} {D : va_G} {tc : Nat → ClassId} {ro : Ro} {oa : Ky → Nat} {aa : Nat → Nat} {sh : Sh} {ln : Nat → Nat} {μ : Mm} {v1 v2 : Int32} {res : Int32} (hwf : WfS sh) (hf : f_X8_kindOfWord_1 sh ln μ v1 v2 = some res) : Ct l D tc ro (faB oa aa sh) (feB tc oa aa sh ln) yX8_kindOfWord cX8_kindOfWord 3 (some .int) (rmq 5 109) [.ref (oa (6, 1)), .int v1, .int v2] μ (some (.int res)) μ := by
  refine Ct.of (by decide) (Nat.le_of_ble_eq_true rfl) (fun p e s m args below meth c A C hr hk hW ls hl => ?_)
  have hx := C.1.1
  have hb := C.1.2.1
  obtain ⟨Q, hQ⟩ : ∃ Q, Q = MQ below (Ctq D (faB oa aa sh) (feB tc oa aa sh ln) (some (.int res)) μ A) args s 0 0 A := ⟨_, rfl⟩
  rw [← hQ]
  have hl : lv_has ls 3 [(0, .ref (oa (6, 1))), (1, .int v1), (2, .int v2)] := hl
  unfold f_X8_kindOfWord_1 at hf
  refine lv_aload_n hx hb dX8_kindOfWord_0 rfl (lv_at hl 0 rfl) ?_
  refine lv_iload_n hx hb dX8_kindOfWord_1 rfl (lv_at hl 1 rfl) ?_
  refine lv_iload_n hx hb dX8_kindOfWord_2 rfl (lv_at hl 2 rfl) ?_
  refine va_ldcS (q := ro.1 5) (tx := "values") hx hb C.1.2.2.2.1 (C.2.2.2.1 ("BackVillage$TextReader", 92, "values", 5) (by decide)) dX8_kindOfWord_3 ?_
  obtain ⟨x5, h5, hf⟩ := bd_of hf
  refine r_callVU (k := ((6, 1) : Ky)) C hW hl lk_X8_94_1 (c_X8_isWord_1 hwf (by decide) h5) ⟨rfl, rfl⟩ ⟨Nat.le_of_ble_eq_true rfl, Nat.le_of_ble_eq_true rfl⟩ rfl rfl rfl (As := [.int v1, .int v2, .ref (ro.1 5)]) (rest := []) rfl rfl (Nat.le_of_ble_eq_true rfl) dX8_kindOfWord_5 ⟨Nat.zero_le _, Nat.zero_le _⟩ (fun H locs hW => ?_)
  show W p l e (rmq 5 109) s m args below meth c H locs 0 0 Q (F0 m 8 ls [.int x5])
  refine lv_if_eq (tgt := 15) hx hb dX8_kindOfWord_8 (by decide) (fun c1 => ?_) (fun c1 => ?_)
  · have hf := (if_pos c1).symm.trans hf
    refine lv_aload_n hx hb dX8_kindOfWord_15 rfl (lv_at hl 0 rfl) ?_
    refine lv_iload_n hx hb dX8_kindOfWord_16 rfl (lv_at hl 1 rfl) ?_
    refine lv_iload_n hx hb dX8_kindOfWord_17 rfl (lv_at hl 2 rfl) ?_
    refine va_ldcS (q := ro.1 6) (tx := "person") hx hb C.1.2.2.2.1 (C.2.2.2.1 ("BackVillage$TextReader", 98, "person", 6) (by decide)) dX8_kindOfWord_18 ?_
    obtain ⟨x20, h20, hf⟩ := bd_of hf
    refine r_callVU (k := ((6, 1) : Ky)) C hW hl lk_X8_94_1 (c_X8_isWord_1 hwf (by decide) h20) ⟨rfl, rfl⟩ ⟨Nat.le_of_ble_eq_true rfl, Nat.le_of_ble_eq_true rfl⟩ rfl rfl rfl (As := [.int v1, .int v2, .ref (ro.1 6)]) (rest := []) rfl rfl (Nat.le_of_ble_eq_true rfl) dX8_kindOfWord_20 ⟨Nat.zero_le _, Nat.zero_le _⟩ (fun H locs hW => ?_)
    show W p l e (rmq 5 109) s m args below meth c H locs 0 0 Q (F0 m 23 ls [.int x20])
    refine lv_if_eq (tgt := 30) hx hb dX8_kindOfWord_23 (by decide) (fun c2 => ?_) (fun c2 => ?_)
    · have hf := (if_pos c2).symm.trans hf
      refine lv_aload_n hx hb dX8_kindOfWord_30 rfl (lv_at hl 0 rfl) ?_
      refine lv_iload_n hx hb dX8_kindOfWord_31 rfl (lv_at hl 1 rfl) ?_
      refine lv_iload_n hx hb dX8_kindOfWord_32 rfl (lv_at hl 2 rfl) ?_
      refine va_ldcS (q := ro.1 7) (tx := "sees") hx hb C.1.2.2.2.1 (C.2.2.2.1 ("BackVillage$TextReader", 100, "sees", 7) (by decide)) dX8_kindOfWord_33 ?_
      obtain ⟨x35, h35, hf⟩ := bd_of hf
      refine r_callVU (k := ((6, 1) : Ky)) C hW hl lk_X8_94_1 (c_X8_isWord_1 hwf (by decide) h35) ⟨rfl, rfl⟩ ⟨Nat.le_of_ble_eq_true rfl, Nat.le_of_ble_eq_true rfl⟩ rfl rfl rfl (As := [.int v1, .int v2, .ref (ro.1 7)]) (rest := []) rfl rfl (Nat.le_of_ble_eq_true rfl) dX8_kindOfWord_35 ⟨Nat.zero_le _, Nat.zero_le _⟩ (fun H locs hW => ?_)
      show W p l e (rmq 5 109) s m args below meth c H locs 0 0 Q (F0 m 38 ls [.int x35])
      refine lv_if_eq (tgt := 45) hx hb dX8_kindOfWord_38 (by decide) (fun c3 => ?_) (fun c3 => ?_)
      · have hf := (if_pos c3).symm.trans hf
        refine lv_aload_n hx hb dX8_kindOfWord_45 rfl (lv_at hl 0 rfl) ?_
        refine lv_iload_n hx hb dX8_kindOfWord_46 rfl (lv_at hl 1 rfl) ?_
        refine lv_iload_n hx hb dX8_kindOfWord_47 rfl (lv_at hl 2 rfl) ?_
        refine va_ldcS (q := ro.1 8) (tx := "least") hx hb C.1.2.2.2.1 (C.2.2.2.1 ("BackVillage$TextReader", 102, "least", 8) (by decide)) dX8_kindOfWord_48 ?_
        obtain ⟨x50, h50, hf⟩ := bd_of hf
        refine r_callVU (k := ((6, 1) : Ky)) C hW hl lk_X8_94_1 (c_X8_isWord_1 hwf (by decide) h50) ⟨rfl, rfl⟩ ⟨Nat.le_of_ble_eq_true rfl, Nat.le_of_ble_eq_true rfl⟩ rfl rfl rfl (As := [.int v1, .int v2, .ref (ro.1 8)]) (rest := []) rfl rfl (Nat.le_of_ble_eq_true rfl) dX8_kindOfWord_50 ⟨Nat.zero_le _, Nat.zero_le _⟩ (fun H locs hW => ?_)
        show W p l e (rmq 5 109) s m args below meth c H locs 0 0 Q (F0 m 53 ls [.int x50])
        refine lv_if_eq (tgt := 60) hx hb dX8_kindOfWord_53 (by decide) (fun c4 => ?_) (fun c4 => ?_)
        · have hf := (if_pos c4).symm.trans hf
          refine lv_aload_n hx hb dX8_kindOfWord_60 rfl (lv_at hl 0 rfl) ?_
          refine lv_iload_n hx hb dX8_kindOfWord_61 rfl (lv_at hl 1 rfl) ?_
          refine lv_iload_n hx hb dX8_kindOfWord_62 rfl (lv_at hl 2 rfl) ?_
          refine va_ldcS (q := ro.1 9) (tx := "most") hx hb C.1.2.2.2.1 (C.2.2.2.1 ("BackVillage$TextReader", 104, "most", 9) (by decide)) dX8_kindOfWord_63 ?_
          obtain ⟨x65, h65, hf⟩ := bd_of hf
          refine r_callVU (k := ((6, 1) : Ky)) C hW hl lk_X8_94_1 (c_X8_isWord_1 hwf (by decide) h65) ⟨rfl, rfl⟩ ⟨Nat.le_of_ble_eq_true rfl, Nat.le_of_ble_eq_true rfl⟩ rfl rfl rfl (As := [.int v1, .int v2, .ref (ro.1 9)]) (rest := []) rfl rfl (Nat.le_of_ble_eq_true rfl) dX8_kindOfWord_65 ⟨Nat.zero_le _, Nat.zero_le _⟩ (fun H locs hW => ?_)
          show W p l e (rmq 5 109) s m args below meth c H locs 0 0 Q (F0 m 68 ls [.int x65])
          refine lv_if_eq (tgt := 75) hx hb dX8_kindOfWord_68 (by decide) (fun c5 => ?_) (fun c5 => ?_)
          · have hf := (if_pos c5).symm.trans hf
            refine lv_aload_n hx hb dX8_kindOfWord_75 rfl (lv_at hl 0 rfl) ?_
            refine lv_iload_n hx hb dX8_kindOfWord_76 rfl (lv_at hl 1 rfl) ?_
            refine lv_iload_n hx hb dX8_kindOfWord_77 rfl (lv_at hl 2 rfl) ?_
            refine va_ldcS (q := ro.1 10) (tx := "have") hx hb C.1.2.2.2.1 (C.2.2.2.1 ("BackVillage$TextReader", 106, "have", 10) (by decide)) dX8_kindOfWord_78 ?_
            obtain ⟨x80, h80, hf⟩ := bd_of hf
            refine r_callVU (k := ((6, 1) : Ky)) C hW hl lk_X8_94_1 (c_X8_isWord_1 hwf (by decide) h80) ⟨rfl, rfl⟩ ⟨Nat.le_of_ble_eq_true rfl, Nat.le_of_ble_eq_true rfl⟩ rfl rfl rfl (As := [.int v1, .int v2, .ref (ro.1 10)]) (rest := []) rfl rfl (Nat.le_of_ble_eq_true rfl) dX8_kindOfWord_80 ⟨Nat.zero_le _, Nat.zero_le _⟩ (fun H locs hW => ?_)
            show W p l e (rmq 5 109) s m args below meth c H locs 0 0 Q (F0 m 83 ls [.int x80])
            refine lv_if_eq (tgt := 90) hx hb dX8_kindOfWord_83 (by decide) (fun c6 => ?_) (fun c6 => ?_)
            · have hf := (if_pos c6).symm.trans hf
              refine lv_aload_n hx hb dX8_kindOfWord_90 rfl (lv_at hl 0 rfl) ?_
              refine lv_iload_n hx hb dX8_kindOfWord_91 rfl (lv_at hl 1 rfl) ?_
              refine lv_iload_n hx hb dX8_kindOfWord_92 rfl (lv_at hl 2 rfl) ?_
              refine va_ldcS (q := ro.1 11) (tx := "alike") hx hb C.1.2.2.2.1 (C.2.2.2.1 ("BackVillage$TextReader", 108, "alike", 11) (by decide)) dX8_kindOfWord_93 ?_
              obtain ⟨x95, h95, hf⟩ := bd_of hf
              refine r_callVU (k := ((6, 1) : Ky)) C hW hl lk_X8_94_1 (c_X8_isWord_1 hwf (by decide) h95) ⟨rfl, rfl⟩ ⟨Nat.le_of_ble_eq_true rfl, Nat.le_of_ble_eq_true rfl⟩ rfl rfl rfl (As := [.int v1, .int v2, .ref (ro.1 11)]) (rest := []) rfl rfl (Nat.le_of_ble_eq_true rfl) dX8_kindOfWord_95 ⟨Nat.zero_le _, Nat.zero_le _⟩ (fun H locs hW => ?_)
              show W p l e (rmq 5 109) s m args below meth c H locs 0 0 Q (F0 m 98 ls [.int x95])
              refine lv_if_eq (tgt := 105) hx hb dX8_kindOfWord_98 (by decide) (fun c7 => ?_) (fun c7 => ?_)
              · have hf := (if_pos c7).symm.trans hf
                refine lv_aload_n hx hb dX8_kindOfWord_105 rfl (lv_at hl 0 rfl) ?_
                refine lv_iload_n hx hb dX8_kindOfWord_106 rfl (lv_at hl 1 rfl) ?_
                refine lv_iload_n hx hb dX8_kindOfWord_107 rfl (lv_at hl 2 rfl) ?_
                refine va_ldcS (q := ro.1 12) (tx := "unlike") hx hb C.1.2.2.2.1 (C.2.2.2.1 ("BackVillage$TextReader", 110, "unlike", 12) (by decide)) dX8_kindOfWord_108 ?_
                obtain ⟨x110, h110, hf⟩ := bd_of hf
                refine r_callVU (k := ((6, 1) : Ky)) C hW hl lk_X8_94_1 (c_X8_isWord_1 hwf (by decide) h110) ⟨rfl, rfl⟩ ⟨Nat.le_of_ble_eq_true rfl, Nat.le_of_ble_eq_true rfl⟩ rfl rfl rfl (As := [.int v1, .int v2, .ref (ro.1 12)]) (rest := []) rfl rfl (Nat.le_of_ble_eq_true rfl) dX8_kindOfWord_110 ⟨Nat.zero_le _, Nat.zero_le _⟩ (fun H locs hW => ?_)
                show W p l e (rmq 5 109) s m args below meth c H locs 0 0 Q (F0 m 113 ls [.int x110])
                refine lv_if_eq (tgt := 120) hx hb dX8_kindOfWord_113 (by decide) (fun c8 => ?_) (fun c8 => ?_)
                · have hf := (if_pos c8).symm.trans hf
                  refine lv_aload_n hx hb dX8_kindOfWord_120 rfl (lv_at hl 0 rfl) ?_
                  refine lv_iload_n hx hb dX8_kindOfWord_121 rfl (lv_at hl 1 rfl) ?_
                  refine lv_iload_n hx hb dX8_kindOfWord_122 rfl (lv_at hl 2 rfl) ?_
                  refine va_ldcS (q := ro.1 13) (tx := "act") hx hb C.1.2.2.2.1 (C.2.2.2.1 ("BackVillage$TextReader", 112, "act", 13) (by decide)) dX8_kindOfWord_123 ?_
                  obtain ⟨x125, h125, hf⟩ := bd_of hf
                  refine r_callVU (k := ((6, 1) : Ky)) C hW hl lk_X8_94_1 (c_X8_isWord_1 hwf (by decide) h125) ⟨rfl, rfl⟩ ⟨Nat.le_of_ble_eq_true rfl, Nat.le_of_ble_eq_true rfl⟩ rfl rfl rfl (As := [.int v1, .int v2, .ref (ro.1 13)]) (rest := []) rfl rfl (Nat.le_of_ble_eq_true rfl) dX8_kindOfWord_125 ⟨Nat.zero_le _, Nat.zero_le _⟩ (fun H locs hW => ?_)
                  show W p l e (rmq 5 109) s m args below meth c H locs 0 0 Q (F0 m 128 ls [.int x125])
                  refine lv_if_eq (tgt := 135) hx hb dX8_kindOfWord_128 (by decide) (fun c9 => ?_) (fun c9 => ?_)
                  · have hf := (if_pos c9).symm.trans hf
                    refine lv_aload_n hx hb dX8_kindOfWord_135 rfl (lv_at hl 0 rfl) ?_
                    refine lv_iload_n hx hb dX8_kindOfWord_136 rfl (lv_at hl 1 rfl) ?_
                    refine lv_iload_n hx hb dX8_kindOfWord_137 rfl (lv_at hl 2 rfl) ?_
                    refine va_ldcS (q := ro.1 14) (tx := "if") hx hb C.1.2.2.2.1 (C.2.2.2.1 ("BackVillage$TextReader", 114, "if", 14) (by decide)) dX8_kindOfWord_138 ?_
                    obtain ⟨x140, h140, hf⟩ := bd_of hf
                    refine r_callVU (k := ((6, 1) : Ky)) C hW hl lk_X8_94_1 (c_X8_isWord_1 hwf (by decide) h140) ⟨rfl, rfl⟩ ⟨Nat.le_of_ble_eq_true rfl, Nat.le_of_ble_eq_true rfl⟩ rfl rfl rfl (As := [.int v1, .int v2, .ref (ro.1 14)]) (rest := []) rfl rfl (Nat.le_of_ble_eq_true rfl) dX8_kindOfWord_140 ⟨Nat.zero_le _, Nat.zero_le _⟩ (fun H locs hW => ?_)
                    show W p l e (rmq 5 109) s m args below meth c H locs 0 0 Q (F0 m 143 ls [.int x140])
                    refine lv_if_eq (tgt := 150) hx hb dX8_kindOfWord_143 (by decide) (fun c10 => ?_) (fun c10 => ?_)
                    · have hf := (if_pos c10).symm.trans hf
                      refine lv_aload_n hx hb dX8_kindOfWord_150 rfl (lv_at hl 0 rfl) ?_
                      refine lv_iload_n hx hb dX8_kindOfWord_151 rfl (lv_at hl 1 rfl) ?_
                      refine lv_iload_n hx hb dX8_kindOfWord_152 rfl (lv_at hl 2 rfl) ?_
                      refine va_ldcS (q := ro.1 15) (tx := "or") hx hb C.1.2.2.2.1 (C.2.2.2.1 ("BackVillage$TextReader", 116, "or", 15) (by decide)) dX8_kindOfWord_153 ?_
                      obtain ⟨x155, h155, hf⟩ := bd_of hf
                      refine r_callVU (k := ((6, 1) : Ky)) C hW hl lk_X8_94_1 (c_X8_isWord_1 hwf (by decide) h155) ⟨rfl, rfl⟩ ⟨Nat.le_of_ble_eq_true rfl, Nat.le_of_ble_eq_true rfl⟩ rfl rfl rfl (As := [.int v1, .int v2, .ref (ro.1 15)]) (rest := []) rfl rfl (Nat.le_of_ble_eq_true rfl) dX8_kindOfWord_155 ⟨Nat.zero_le _, Nat.zero_le _⟩ (fun H locs hW => ?_)
                      show W p l e (rmq 5 109) s m args below meth c H locs 0 0 Q (F0 m 158 ls [.int x155])
                      refine lv_if_eq (tgt := 165) hx hb dX8_kindOfWord_158 (by decide) (fun c11 => ?_) (fun c11 => ?_)
                      · have hf := (if_pos c11).symm.trans hf
                        refine lv_aload_n hx hb dX8_kindOfWord_165 rfl (lv_at hl 0 rfl) ?_
                        refine lv_iload_n hx hb dX8_kindOfWord_166 rfl (lv_at hl 1 rfl) ?_
                        refine lv_iload_n hx hb dX8_kindOfWord_167 rfl (lv_at hl 2 rfl) ?_
                        refine va_ldcS (q := ro.1 16) (tx := "and") hx hb C.1.2.2.2.1 (C.2.2.2.1 ("BackVillage$TextReader", 118, "and", 16) (by decide)) dX8_kindOfWord_168 ?_
                        obtain ⟨x170, h170, hf⟩ := bd_of hf
                        refine r_callVU (k := ((6, 1) : Ky)) C hW hl lk_X8_94_1 (c_X8_isWord_1 hwf (by decide) h170) ⟨rfl, rfl⟩ ⟨Nat.le_of_ble_eq_true rfl, Nat.le_of_ble_eq_true rfl⟩ rfl rfl rfl (As := [.int v1, .int v2, .ref (ro.1 16)]) (rest := []) rfl rfl (Nat.le_of_ble_eq_true rfl) dX8_kindOfWord_170 ⟨Nat.zero_le _, Nat.zero_le _⟩ (fun H locs hW => ?_)
                        show W p l e (rmq 5 109) s m args below meth c H locs 0 0 Q (F0 m 173 ls [.int x170])
                        refine lv_if_eq (tgt := 180) hx hb dX8_kindOfWord_173 (by decide) (fun c12 => ?_) (fun c12 => ?_)
                        · have hf := (if_pos c12).symm.trans hf
                          refine lv_aload_n hx hb dX8_kindOfWord_180 rfl (lv_at hl 0 rfl) ?_
                          refine lv_iload_n hx hb dX8_kindOfWord_181 rfl (lv_at hl 1 rfl) ?_
                          refine lv_iload_n hx hb dX8_kindOfWord_182 rfl (lv_at hl 2 rfl) ?_
                          refine va_ldcS (q := ro.1 17) (tx := "not") hx hb C.1.2.2.2.1 (C.2.2.2.1 ("BackVillage$TextReader", 120, "not", 17) (by decide)) dX8_kindOfWord_183 ?_
                          obtain ⟨x185, h185, hf⟩ := bd_of hf
                          refine r_callVU (k := ((6, 1) : Ky)) C hW hl lk_X8_94_1 (c_X8_isWord_1 hwf (by decide) h185) ⟨rfl, rfl⟩ ⟨Nat.le_of_ble_eq_true rfl, Nat.le_of_ble_eq_true rfl⟩ rfl rfl rfl (As := [.int v1, .int v2, .ref (ro.1 17)]) (rest := []) rfl rfl (Nat.le_of_ble_eq_true rfl) dX8_kindOfWord_185 ⟨Nat.zero_le _, Nat.zero_le _⟩ (fun H locs hW => ?_)
                          show W p l e (rmq 5 109) s m args below meth c H locs 0 0 Q (F0 m 188 ls [.int x185])
                          refine lv_if_eq (tgt := 195) hx hb dX8_kindOfWord_188 (by decide) (fun c13 => ?_) (fun c13 => ?_)
                          · have hf := (if_pos c13).symm.trans hf
                            refine lv_aload_n hx hb dX8_kindOfWord_195 rfl (lv_at hl 0 rfl) ?_
                            refine lv_iload_n hx hb dX8_kindOfWord_196 rfl (lv_at hl 1 rfl) ?_
                            refine lv_iload_n hx hb dX8_kindOfWord_197 rfl (lv_at hl 2 rfl) ?_
                            refine va_ldcS (q := ro.1 18) (tx := "sure") hx hb C.1.2.2.2.1 (C.2.2.2.1 ("BackVillage$TextReader", 122, "sure", 18) (by decide)) dX8_kindOfWord_198 ?_
                            obtain ⟨x200, h200, hf⟩ := bd_of hf
                            refine r_callVU (k := ((6, 1) : Ky)) C hW hl lk_X8_94_1 (c_X8_isWord_1 hwf (by decide) h200) ⟨rfl, rfl⟩ ⟨Nat.le_of_ble_eq_true rfl, Nat.le_of_ble_eq_true rfl⟩ rfl rfl rfl (As := [.int v1, .int v2, .ref (ro.1 18)]) (rest := []) rfl rfl (Nat.le_of_ble_eq_true rfl) dX8_kindOfWord_200 ⟨Nat.zero_le _, Nat.zero_le _⟩ (fun H locs hW => ?_)
                            show W p l e (rmq 5 109) s m args below meth c H locs 0 0 Q (F0 m 203 ls [.int x200])
                            refine lv_if_eq (tgt := 210) hx hb dX8_kindOfWord_203 (by decide) (fun c14 => ?_) (fun c14 => ?_)
                            · have hf := (if_pos c14).symm.trans hf
                              refine lv_aload_n hx hb dX8_kindOfWord_210 rfl (lv_at hl 0 rfl) ?_
                              refine lv_iload_n hx hb dX8_kindOfWord_211 rfl (lv_at hl 1 rfl) ?_
                              refine lv_iload_n hx hb dX8_kindOfWord_212 rfl (lv_at hl 2 rfl) ?_
                              refine va_ldcS (q := ro.1 19) (tx := "seen") hx hb C.1.2.2.2.1 (C.2.2.2.1 ("BackVillage$TextReader", 124, "seen", 19) (by decide)) dX8_kindOfWord_213 ?_
                              obtain ⟨x215, h215, hf⟩ := bd_of hf
                              refine r_callVU (k := ((6, 1) : Ky)) C hW hl lk_X8_94_1 (c_X8_isWord_1 hwf (by decide) h215) ⟨rfl, rfl⟩ ⟨Nat.le_of_ble_eq_true rfl, Nat.le_of_ble_eq_true rfl⟩ rfl rfl rfl (As := [.int v1, .int v2, .ref (ro.1 19)]) (rest := []) rfl rfl (Nat.le_of_ble_eq_true rfl) dX8_kindOfWord_215 ⟨Nat.zero_le _, Nat.zero_le _⟩ (fun H locs hW => ?_)
                              show W p l e (rmq 5 109) s m args below meth c H locs 0 0 Q (F0 m 218 ls [.int x215])
                              refine lv_if_eq (tgt := 225) hx hb dX8_kindOfWord_218 (by decide) (fun c15 => ?_) (fun c15 => ?_)
                              · have hf := (if_pos c15).symm.trans hf
                                refine lv_aload_n hx hb dX8_kindOfWord_225 rfl (lv_at hl 0 rfl) ?_
                                refine lv_iload_n hx hb dX8_kindOfWord_226 rfl (lv_at hl 1 rfl) ?_
                                refine lv_iload_n hx hb dX8_kindOfWord_227 rfl (lv_at hl 2 rfl) ?_
                                refine va_ldcS (q := ro.1 20) (tx := "theirs") hx hb C.1.2.2.2.1 (C.2.2.2.1 ("BackVillage$TextReader", 126, "theirs", 20) (by decide)) dX8_kindOfWord_228 ?_
                                obtain ⟨x230, h230, hf⟩ := bd_of hf
                                refine r_callVU (k := ((6, 1) : Ky)) C hW hl lk_X8_94_1 (c_X8_isWord_1 hwf (by decide) h230) ⟨rfl, rfl⟩ ⟨Nat.le_of_ble_eq_true rfl, Nat.le_of_ble_eq_true rfl⟩ rfl rfl rfl (As := [.int v1, .int v2, .ref (ro.1 20)]) (rest := []) rfl rfl (Nat.le_of_ble_eq_true rfl) dX8_kindOfWord_230 ⟨Nat.zero_le _, Nat.zero_le _⟩ (fun H locs hW => ?_)
                                show W p l e (rmq 5 109) s m args below meth c H locs 0 0 Q (F0 m 233 ls [.int x230])
                                refine lv_if_eq (tgt := 240) hx hb dX8_kindOfWord_233 (by decide) (fun c16 => ?_) (fun c16 => ?_)
                                · have hf := (if_pos c16).symm.trans hf
                                  refine lv_aload_n hx hb dX8_kindOfWord_240 rfl (lv_at hl 0 rfl) ?_
                                  refine lv_iload_n hx hb dX8_kindOfWord_241 rfl (lv_at hl 1 rfl) ?_
                                  refine lv_iload_n hx hb dX8_kindOfWord_242 rfl (lv_at hl 2 rfl) ?_
                                  refine va_ldcS (q := ro.1 21) (tx := "who") hx hb C.1.2.2.2.1 (C.2.2.2.1 ("BackVillage$TextReader", 128, "who", 21) (by decide)) dX8_kindOfWord_243 ?_
                                  obtain ⟨x245, h245, hf⟩ := bd_of hf
                                  refine r_callVU (k := ((6, 1) : Ky)) C hW hl lk_X8_94_1 (c_X8_isWord_1 hwf (by decide) h245) ⟨rfl, rfl⟩ ⟨Nat.le_of_ble_eq_true rfl, Nat.le_of_ble_eq_true rfl⟩ rfl rfl rfl (As := [.int v1, .int v2, .ref (ro.1 21)]) (rest := []) rfl rfl (Nat.le_of_ble_eq_true rfl) dX8_kindOfWord_245 ⟨Nat.zero_le _, Nat.zero_le _⟩ (fun H locs hW => ?_)
                                  show W p l e (rmq 5 109) s m args below meth c H locs 0 0 Q (F0 m 248 ls [.int x245])
                                  refine lv_if_eq (tgt := 255) hx hb dX8_kindOfWord_248 (by decide) (fun c17 => ?_) (fun c17 => ?_)
                                  · have hf := (if_pos c17).symm.trans hf
                                    refine lv_aload_n hx hb dX8_kindOfWord_255 rfl (lv_at hl 0 rfl) ?_
                                    refine lv_iload_n hx hb dX8_kindOfWord_256 rfl (lv_at hl 1 rfl) ?_
                                    refine lv_iload_n hx hb dX8_kindOfWord_257 rfl (lv_at hl 2 rfl) ?_
                                    refine va_ldcS (q := ro.1 22) (tx := "whom") hx hb C.1.2.2.2.1 (C.2.2.2.1 ("BackVillage$TextReader", 130, "whom", 22) (by decide)) dX8_kindOfWord_258 ?_
                                    obtain ⟨x260, h260, hf⟩ := bd_of hf
                                    refine r_callVU (k := ((6, 1) : Ky)) C hW hl lk_X8_94_1 (c_X8_isWord_1 hwf (by decide) h260) ⟨rfl, rfl⟩ ⟨Nat.le_of_ble_eq_true rfl, Nat.le_of_ble_eq_true rfl⟩ rfl rfl rfl (As := [.int v1, .int v2, .ref (ro.1 22)]) (rest := []) rfl rfl (Nat.le_of_ble_eq_true rfl) dX8_kindOfWord_260 ⟨Nat.zero_le _, Nat.zero_le _⟩ (fun H locs hW => ?_)
                                    show W p l e (rmq 5 109) s m args below meth c H locs 0 0 Q (F0 m 263 ls [.int x260])
                                    refine lv_if_eq (tgt := 270) hx hb dX8_kindOfWord_263 (by decide) (fun c18 => ?_) (fun c18 => ?_)
                                    · have hf := (if_pos c18).symm.trans hf
                                      refine lv_aload_n hx hb dX8_kindOfWord_270 rfl (lv_at hl 0 rfl) ?_
                                      refine lv_iload_n hx hb dX8_kindOfWord_271 rfl (lv_at hl 1 rfl) ?_
                                      refine lv_iload_n hx hb dX8_kindOfWord_272 rfl (lv_at hl 2 rfl) ?_
                                      refine va_ldcS (q := ro.1 23) (tx := "day") hx hb C.1.2.2.2.1 (C.2.2.2.1 ("BackVillage$TextReader", 132, "day", 23) (by decide)) dX8_kindOfWord_273 ?_
                                      obtain ⟨x275, h275, hf⟩ := bd_of hf
                                      refine r_callVU (k := ((6, 1) : Ky)) C hW hl lk_X8_94_1 (c_X8_isWord_1 hwf (by decide) h275) ⟨rfl, rfl⟩ ⟨Nat.le_of_ble_eq_true rfl, Nat.le_of_ble_eq_true rfl⟩ rfl rfl rfl (As := [.int v1, .int v2, .ref (ro.1 23)]) (rest := []) rfl rfl (Nat.le_of_ble_eq_true rfl) dX8_kindOfWord_275 ⟨Nat.zero_le _, Nat.zero_le _⟩ (fun H locs hW => ?_)
                                      show W p l e (rmq 5 109) s m args below meth c H locs 0 0 Q (F0 m 278 ls [.int x275])
                                      refine lv_if_eq (tgt := 287) hx hb dX8_kindOfWord_278 (by decide) (fun c19 => ?_) (fun c19 => ?_)
                                      · have hf := (if_pos c19).symm.trans hf
                                        refine lv_iconst (v := 1) hx hb dX8_kindOfWord_287 (by decide) ?_
                                        obtain rfl := Option.some.inj hf
                                        rw [hQ]
                                        exact r_iret C hr hk hW rfl rfl dX8_kindOfWord_288
                                      · have hf := (if_neg c19).symm.trans hf
                                        refine lv_sipush (v := 319) hx hb dX8_kindOfWord_281 (by decide) ?_
                                        refine lv_goto (tgt := 288) hx hb dX8_kindOfWord_284 (by decide) ?_
                                        obtain rfl := Option.some.inj hf
                                        rw [hQ]
                                        exact r_iret C hr hk hW rfl rfl dX8_kindOfWord_288
                                    · have hf := (if_neg c18).symm.trans hf
                                      refine lv_sipush (v := 318) hx hb dX8_kindOfWord_266 (by decide) ?_
                                      obtain rfl := Option.some.inj hf
                                      rw [hQ]
                                      exact r_iret C hr hk hW rfl rfl dX8_kindOfWord_269
                                  · have hf := (if_neg c17).symm.trans hf
                                    refine lv_sipush (v := 317) hx hb dX8_kindOfWord_251 (by decide) ?_
                                    obtain rfl := Option.some.inj hf
                                    rw [hQ]
                                    exact r_iret C hr hk hW rfl rfl dX8_kindOfWord_254
                                · have hf := (if_neg c16).symm.trans hf
                                  refine lv_sipush (v := 316) hx hb dX8_kindOfWord_236 (by decide) ?_
                                  obtain rfl := Option.some.inj hf
                                  rw [hQ]
                                  exact r_iret C hr hk hW rfl rfl dX8_kindOfWord_239
                              · have hf := (if_neg c15).symm.trans hf
                                refine lv_sipush (v := 315) hx hb dX8_kindOfWord_221 (by decide) ?_
                                obtain rfl := Option.some.inj hf
                                rw [hQ]
                                exact r_iret C hr hk hW rfl rfl dX8_kindOfWord_224
                            · have hf := (if_neg c14).symm.trans hf
                              refine lv_sipush (v := 314) hx hb dX8_kindOfWord_206 (by decide) ?_
                              obtain rfl := Option.some.inj hf
                              rw [hQ]
                              exact r_iret C hr hk hW rfl rfl dX8_kindOfWord_209
                          · have hf := (if_neg c13).symm.trans hf
                            refine lv_sipush (v := 313) hx hb dX8_kindOfWord_191 (by decide) ?_
                            obtain rfl := Option.some.inj hf
                            rw [hQ]
                            exact r_iret C hr hk hW rfl rfl dX8_kindOfWord_194
                        · have hf := (if_neg c12).symm.trans hf
                          refine lv_sipush (v := 312) hx hb dX8_kindOfWord_176 (by decide) ?_
                          obtain rfl := Option.some.inj hf
                          rw [hQ]
                          exact r_iret C hr hk hW rfl rfl dX8_kindOfWord_179
                      · have hf := (if_neg c11).symm.trans hf
                        refine lv_sipush (v := 311) hx hb dX8_kindOfWord_161 (by decide) ?_
                        obtain rfl := Option.some.inj hf
                        rw [hQ]
                        exact r_iret C hr hk hW rfl rfl dX8_kindOfWord_164
                    · have hf := (if_neg c10).symm.trans hf
                      refine lv_sipush (v := 310) hx hb dX8_kindOfWord_146 (by decide) ?_
                      obtain rfl := Option.some.inj hf
                      rw [hQ]
                      exact r_iret C hr hk hW rfl rfl dX8_kindOfWord_149
                  · have hf := (if_neg c9).symm.trans hf
                    refine lv_sipush (v := 309) hx hb dX8_kindOfWord_131 (by decide) ?_
                    obtain rfl := Option.some.inj hf
                    rw [hQ]
                    exact r_iret C hr hk hW rfl rfl dX8_kindOfWord_134
                · have hf := (if_neg c8).symm.trans hf
                  refine lv_sipush (v := 308) hx hb dX8_kindOfWord_116 (by decide) ?_
                  obtain rfl := Option.some.inj hf
                  rw [hQ]
                  exact r_iret C hr hk hW rfl rfl dX8_kindOfWord_119
              · have hf := (if_neg c7).symm.trans hf
                refine lv_sipush (v := 307) hx hb dX8_kindOfWord_101 (by decide) ?_
                obtain rfl := Option.some.inj hf
                rw [hQ]
                exact r_iret C hr hk hW rfl rfl dX8_kindOfWord_104
            · have hf := (if_neg c6).symm.trans hf
              refine lv_sipush (v := 306) hx hb dX8_kindOfWord_86 (by decide) ?_
              obtain rfl := Option.some.inj hf
              rw [hQ]
              exact r_iret C hr hk hW rfl rfl dX8_kindOfWord_89
          · have hf := (if_neg c5).symm.trans hf
            refine lv_sipush (v := 305) hx hb dX8_kindOfWord_71 (by decide) ?_
            obtain rfl := Option.some.inj hf
            rw [hQ]
            exact r_iret C hr hk hW rfl rfl dX8_kindOfWord_74
        · have hf := (if_neg c4).symm.trans hf
          refine lv_sipush (v := 304) hx hb dX8_kindOfWord_56 (by decide) ?_
          obtain rfl := Option.some.inj hf
          rw [hQ]
          exact r_iret C hr hk hW rfl rfl dX8_kindOfWord_59
      · have hf := (if_neg c3).symm.trans hf
        refine lv_sipush (v := 303) hx hb dX8_kindOfWord_41 (by decide) ?_
        obtain rfl := Option.some.inj hf
        rw [hQ]
        exact r_iret C hr hk hW rfl rfl dX8_kindOfWord_44
    · have hf := (if_neg c2).symm.trans hf
      refine lv_sipush (v := 302) hx hb dX8_kindOfWord_26 (by decide) ?_
      obtain rfl := Option.some.inj hf
      rw [hQ]
      exact r_iret C hr hk hW rfl rfl dX8_kindOfWord_29
  · have hf := (if_neg c1).symm.trans hf
    refine lv_sipush (v := 301) hx hb dX8_kindOfWord_11 (by decide) ?_
    obtain rfl := Option.some.inj hf
    rw [hQ]
    exact r_iret C hr hk hW rfl rfl dX8_kindOfWord_14
set_option maxHeartbeats 4000000 in
set_option maxRecDepth 100000 in
theorem c_X8_valueOf_1 {l : Launch} {D : va_G} {tc : Nat → ClassId} {ro : Ro} {oa : Ky → Nat} {aa : Nat → Nat} {sh : Sh} {ln : Nat → Nat} {μ : Mm} {v1 v2 : Int32} {res : Int32} (hwf : WfS sh) (hf : f_X8_valueOf_1 sh ln μ v1 v2 = some res) : Ct l D tc ro (faB oa aa sh) (feB tc oa aa sh ln) yX8_valueOf cX8_valueOf 5 (some .int) (rmq 3 63) [.ref (oa (6, 1)), .int v1, .int v2] μ (some (.int res)) μ := by
  refine Ct.of (by decide) (Nat.le_of_ble_eq_true rfl) (fun p e s m args below meth c A C hr hk hW ls hl => ?_)
  have hx := C.1.1
  have hb := C.1.2.1
  obtain ⟨Q, hQ⟩ : ∃ Q, Q = MQ below (Ctq D (faB oa aa sh) (feB tc oa aa sh ln) (some (.int res)) μ A) args s 0 0 A := ⟨_, rfl⟩
  rw [← hQ]
  have hl : lv_has ls 5 [(0, .ref (oa (6, 1))), (1, .int v1), (2, .int v2)] := hl
  unfold f_X8_valueOf_1 at hf
  refine lv_iconst (v := 0) hx hb dX8_valueOf_0 (by decide) ?_
  refine lv_istore_n (lv' := [(3, .int (0 : Int32)), (0, .ref (oa (6, 1))), (1, .int v1), (2, .int v2)]) hx hb dX8_valueOf_1 rfl hl (by decide) rfl (fun ls hl => ?_)
  refine lv_iload_n hx hb dX8_valueOf_2 rfl (lv_at hl 2 rfl) ?_
  refine lv_istore (lv' := [(4, .int v1), (3, .int (0 : Int32)), (0, .ref (oa (6, 1))), (1, .int v1), (2, .int v2)]) hx hb dX8_valueOf_3 hl (by decide) rfl (fun ls hl => ?_)
  have L5 : ∀ (v3 v4 : Int32) (H : Heap) (locs : List Loc) (ls : Array Slot), Wh (fun z : Int32 × Int32 => f_X8_valueOf_1_L5 sh ln v2 μ z.1 z.2) (v3, v4) = some res → Wd D (faB oa aa sh) (feB tc oa aa sh ln) A s.heap μ H locs → lv_has ls 5 [(0, .ref (oa (6, 1))), (2, .int v2), (3, .int v3), (4, .int v4)] → W p l e (rmq 3 63) s m args below meth c H locs 0 0 Q (F0 m 5 ls []) := by
    intro v3 v4 H locs ls hf hW hl
    refine Wh_rule hf (fun z : Int32 × Int32 => ∀ (H : Heap) (locs : List Loc) (ls : Array Slot), Wd D (faB oa aa sh) (feB tc oa aa sh ln) A s.heap μ H locs → lv_has ls 5 [(0, .ref (oa (6, 1))), (2, .int v2), (3, .int z.1), (4, .int z.2)] → W p l e (rmq 3 63) s m args below meth c H locs 0 0 Q (F0 m 5 ls [])) (fun z o1 hf Kl1 Kr1 => ?_) _ _ _ hW hl
    obtain ⟨v3, v4⟩ := z
    intro H locs ls hW hl
    have hf : f_X8_valueOf_1_L5 sh ln v2 μ v3 v4 = some o1 := hf
    unfold f_X8_valueOf_1_L5 at hf
    have hW : Wd D (faB oa aa sh) (feB tc oa aa sh ln) A s.heap μ H locs := hW
    have hl : lv_has ls 5 [(0, .ref (oa (6, 1))), (2, .int v2), (3, .int v3), (4, .int v4)] := hl
    refine lv_iload hx hb dX8_valueOf_5 (lv_at hl 3 rfl) ?_
    refine lv_iload_n hx hb dX8_valueOf_7 rfl (lv_at hl 1 rfl) ?_
    refine lv_icmp_ge (tgt := 32) hx hb dX8_valueOf_8 (by decide) (fun c1 => ?_) (fun c1 => ?_)
    · have hf := (if_pos c1).symm.trans hf
      obtain ⟨x9002, hf, hx9002⟩ := map_of hf
      have e9002 := (Kr1 _ hx9002.symm).symm
      subst e9002
      refine lv_iload_n hx hb dX8_valueOf_32 rfl (lv_at hl 2 rfl) ?_
      obtain rfl := Option.some.inj hf
      rw [hQ]
      exact r_iret C hr hk hW rfl rfl dX8_valueOf_33
    · have hf := (if_neg c1).symm.trans hf
      refine lv_iload_n hx hb dX8_valueOf_11 rfl (lv_at hl 2 rfl) ?_
      refine lv_bipush (v := 10) hx hb dX8_valueOf_12 (by decide) ?_
      refine lv_imul hx hb dX8_valueOf_14 ?_
      refine lv_aload_n hx hb dX8_valueOf_15 rfl (lv_at hl 0 rfl) ?_
      refine lv_iload hx hb dX8_valueOf_16 (lv_at hl 3 rfl) ?_
      obtain ⟨x18, h18, hf⟩ := bd_of hf
      refine r_callVU (k := ((6, 1) : Ky)) C hW hl lk_X8_58_1 (c_X8_byteAt_1 hwf h18) ⟨rfl, rfl⟩ ⟨Nat.le_of_ble_eq_true rfl, Nat.le_of_ble_eq_true rfl⟩ rfl rfl rfl (As := [.int v4]) (rest := [.int (v3 * (10 : Int32))]) rfl rfl (Nat.le_of_ble_eq_true rfl) dX8_valueOf_18 ⟨Nat.zero_le _, Nat.zero_le _⟩ (fun H locs hW => ?_)
      show W p l e (rmq 3 63) s m args below meth c H locs 0 0 Q (F0 m 21 ls [.int x18, .int (v3 * (10 : Int32))])
      refine lv_iadd hx hb dX8_valueOf_21 ?_
      refine lv_bipush (v := 48) hx hb dX8_valueOf_22 (by decide) ?_
      refine lv_isub hx hb dX8_valueOf_24 ?_
      refine lv_istore_n (lv' := [(3, .int (((v3 * (10 : Int32)) + x18) - (48 : Int32))), (0, .ref (oa (6, 1))), (2, .int v2), (4, .int v4)]) hx hb dX8_valueOf_25 rfl hl (by decide) rfl (fun ls hl => ?_)
      refine lv_iinc (v := (v4 + (1 : Int32))) (lv' := [(4, .int (v4 + (1 : Int32))), (3, .int (((v3 * (10 : Int32)) + x18) - (48 : Int32))), (0, .ref (oa (6, 1))), (2, .int v2)]) hx hb dX8_valueOf_26 hl (k := 3) rfl rfl (by decide) rfl (fun ls hl => ?_)
      refine lv_goto (tgt := 5) hx hb dX8_valueOf_29 (by decide) ?_
      obtain rfl := Option.some.inj hf
      exact Kl1 _ rfl _ _ _ hW (lv_sub hl [2, 3, 1, 0] rfl)
  exact L5 (0 : Int32) v1 _ _ _ hf hW (lv_sub hl [2, 4, 1, 0] rfl)
set_option maxHeartbeats 4000000 in
set_option maxRecDepth 100000 in
theorem c_X8_keep_1 {l : Launch} {D : va_G} {tc : Nat → ClassId} {ro : Ro} {oa : Ky → Nat} {aa : Nat → Nat} {sh : Sh} {ln : Nat → Nat} {μ : Mm} {v1 v2 : Int32} {res : Mm} (hwf : WfS sh) (hf : f_X8_keep_1 sh ln μ v1 v2 = some res) : Ct l D tc ro (faB oa aa sh) (feB tc oa aa sh ln) yX8_keep cX8_keep 3 none (rmq 6 131) [.ref (oa (6, 1)), .int v1, .int v2] μ none res := by
  refine Ct.of (by decide) (Nat.le_of_ble_eq_true rfl) (fun p e s m args below meth c A C hr hk hW ls hl => ?_)
  have hx := C.1.1
  have hb := C.1.2.1
  obtain ⟨Q, hQ⟩ : ∃ Q, Q = MQ below (Ctq D (faB oa aa sh) (feB tc oa aa sh ln) none res A) args s 0 0 A := ⟨_, rfl⟩
  rw [← hQ]
  have hl : lv_has ls 3 [(0, .ref (oa (6, 1))), (1, .int v1), (2, .int v2)] := hl
  unfold f_X8_keep_1 at hf
  have J117 : ∀ (μ : Mm) (s0 s1 : Int32) (H : Heap) (locs : List Loc) (ls : Array Slot), f_X8_keep_1_J117 sh ln μ v1 v2 s0 s1 = some res → Wd D (faB oa aa sh) (feB tc oa aa sh ln) A s.heap μ H locs → lv_has ls 3 [(0, .ref (oa (6, 1))), (1, .int v1), (2, .int v2)] → W p l e (rmq 6 131) s m args below meth c H locs 0 0 Q (F0 m 117 ls [.int s0, .int s1, .ref (oa (7, 1))]) := by
    intro μ s0 s1 H locs ls hf hW hl
    unfold f_X8_keep_1_J117 at hf
    obtain ⟨hi1, hf⟩ := ck_of hf
    refine r_iast (k := ((7, 1) : Ky)) (n := 400) C hW rfl (fun _ => rfl) hi1 dX8_keep_117 (fun H locs hW => ?_)
    refine lv_aload_n hx hb dX8_keep_118 rfl (lv_at hl 0 rfl) ?_
    refine gf_X8_20_1 C hW dX8_keep_119 ?_
    refine lv_aload_n hx hb dX8_keep_122 rfl (lv_at hl 0 rfl) ?_
    refine gf_X8_51_1 C hW dX8_keep_123 ?_
    refine lv_aload_n hx hb dX8_keep_126 rfl (lv_at hl 0 rfl) ?_
    refine lv_iload_n hx hb dX8_keep_127 rfl (lv_at hl 1 rfl) ?_
    refine lv_iload_n hx hb dX8_keep_128 rfl (lv_at hl 2 rfl) ?_
    refine lv_iload_n hx hb dX8_keep_129 rfl (lv_at hl 1 rfl) ?_
    refine lv_iconst (v := 3) hx hb dX8_keep_130 (by decide) ?_
    refine lv_iadd hx hb dX8_keep_131 ?_
    refine r_mmin C hl kw_1165 kw_560 kw_140 kw_561 (Nat.le_of_ble_eq_true rfl) (Nat.le_of_ble_eq_true rfl) ⟨Nat.zero_le _, Nat.zero_le _⟩ dX8_keep_132 ?_
    obtain ⟨x135, h135, hf⟩ := bd_of hf
    refine r_callVU (k := ((6, 1) : Ky)) C hW hl lk_X8_89_1 (c_X8_valueOf_1 hwf h135) ⟨rfl, rfl⟩ ⟨Nat.le_of_ble_eq_true rfl, Nat.le_of_ble_eq_true rfl⟩ rfl rfl rfl (As := [.int v1, .int (if (v1 + (3 : Int32)) < v2 then (v1 + (3 : Int32)) else v2)]) (rest := [.int ((mst μ (7, 1) s1.toNatClampNeg s0) (6, 1) 3), .ref (oa (9, 1))]) rfl rfl (Nat.le_of_ble_eq_true rfl) dX8_keep_135 ⟨Nat.zero_le _, Nat.zero_le _⟩ (fun H locs hW => ?_)
    show W p l e (rmq 6 131) s m args below meth c H locs 0 0 Q (F0 m 138 ls [.int x135, .int ((mst μ (7, 1) s1.toNatClampNeg s0) (6, 1) 3), .ref (oa (9, 1))])
    obtain ⟨hi2, hf⟩ := ck_of hf
    refine r_iast (k := ((9, 1) : Ky)) (n := 400) C hW rfl (fun _ => rfl) hi2 dX8_keep_138 (fun H locs hW => ?_)
    obtain ⟨μ3, hm3, hf⟩ := bd_of hf
    rw [Option.some.inj hm3] at hW
    refine lv_goto (tgt := 170) hx hb dX8_keep_139 (by decide) ?_
    refine lv_aload_n hx hb dX8_keep_170 rfl (lv_at hl 0 rfl) ?_
    refine lv_dup hx hb dX8_keep_171 rfl ?_
    refine gf_X8_51_1 C hW dX8_keep_172 ?_
    refine lv_iconst (v := 1) hx hb dX8_keep_175 (by decide) ?_
    refine lv_iadd hx hb dX8_keep_176 ?_
    refine pf_X8_51_1 C hW dX8_keep_177 (fun H locs hW => ?_)
    obtain rfl := Option.some.inj hf
    rw [hQ]
    exact r_vret C hr hk hW rfl rfl dX8_keep_180
  refine lv_aload_n hx hb dX8_keep_0 rfl (lv_at hl 0 rfl) ?_
  refine gf_X8_51_1 C hW dX8_keep_1 ?_
  refine lv_aload_n hx hb dX8_keep_4 rfl (lv_at hl 0 rfl) ?_
  refine gf_X8_11_1 C hW dX8_keep_5 ?_
  refine r_alen (k := ((7, 1) : Ky)) (t := 0) (v := (400 : Int32)) C hW rfl rfl rfl rfl dX8_keep_8 ?_
  refine lv_icmp_ge (tgt := 36) hx hb dX8_keep_9 (by decide) (fun c4 => ?_) (fun c4 => ?_)
  · have hf := (if_pos c4).symm.trans hf
    obtain rfl := Option.some.inj hf
    rw [hQ]
    exact r_vret C hr hk hW rfl rfl dX8_keep_36
  · have hf := (if_neg c4).symm.trans hf
    refine lv_aload_n hx hb dX8_keep_12 rfl (lv_at hl 0 rfl) ?_
    refine gf_X8_51_1 C hW dX8_keep_13 ?_
    refine lv_aload_n hx hb dX8_keep_16 rfl (lv_at hl 0 rfl) ?_
    refine gf_X8_17_1 C hW dX8_keep_17 ?_
    refine r_alen (k := ((8, 1) : Ky)) (t := 0) (v := (400 : Int32)) C hW rfl rfl rfl rfl dX8_keep_20 ?_
    refine lv_icmp_ge (tgt := 36) hx hb dX8_keep_21 (by decide) (fun c5 => ?_) (fun c5 => ?_)
    · have hf := (if_pos c5).symm.trans hf
      obtain rfl := Option.some.inj hf
      rw [hQ]
      exact r_vret C hr hk hW rfl rfl dX8_keep_36
    · have hf := (if_neg c5).symm.trans hf
      refine lv_aload_n hx hb dX8_keep_24 rfl (lv_at hl 0 rfl) ?_
      refine gf_X8_51_1 C hW dX8_keep_25 ?_
      refine lv_aload_n hx hb dX8_keep_28 rfl (lv_at hl 0 rfl) ?_
      refine gf_X8_20_1 C hW dX8_keep_29 ?_
      refine r_alen (k := ((9, 1) : Ky)) (t := 0) (v := (400 : Int32)) C hW rfl rfl rfl rfl dX8_keep_32 ?_
      refine lv_icmp_lt (tgt := 37) hx hb dX8_keep_33 (by decide) (fun c6 => ?_) (fun c6 => ?_)
      · have hf := (if_pos c6).symm.trans hf
        refine lv_aload_n hx hb dX8_keep_37 rfl (lv_at hl 0 rfl) ?_
        refine gf_X8_17_1 C hW dX8_keep_38 ?_
        refine lv_aload_n hx hb dX8_keep_41 rfl (lv_at hl 0 rfl) ?_
        refine gf_X8_51_1 C hW dX8_keep_42 ?_
        refine lv_iload_n hx hb dX8_keep_45 rfl (lv_at hl 1 rfl) ?_
        obtain ⟨hi7, hf⟩ := ck_of hf
        refine r_iast (k := ((8, 1) : Ky)) (n := 400) C hW rfl (fun _ => rfl) hi7 dX8_keep_46 (fun H locs hW => ?_)
        refine lv_aload_n hx hb dX8_keep_47 rfl (lv_at hl 0 rfl) ?_
        refine gf_X8_20_1 C hW dX8_keep_48 ?_
        refine lv_aload_n hx hb dX8_keep_51 rfl (lv_at hl 0 rfl) ?_
        refine gf_X8_51_1 C hW dX8_keep_52 ?_
        refine lv_iconst (v := 0) hx hb dX8_keep_55 (by decide) ?_
        obtain ⟨hi8, hf⟩ := ck_of hf
        refine r_iast (k := ((9, 1) : Ky)) (n := 400) C hW rfl (fun _ => rfl) hi8 dX8_keep_56 (fun H locs hW => ?_)
        obtain ⟨μ9, hm9, hf⟩ := bd_of hf
        rw [Option.some.inj hm9] at hW
        refine lv_aload_n hx hb dX8_keep_57 rfl (lv_at hl 0 rfl) ?_
        refine lv_iload_n hx hb dX8_keep_58 rfl (lv_at hl 1 rfl) ?_
        obtain ⟨x59, h59, hf⟩ := bd_of hf
        refine r_callVU (k := ((6, 1) : Ky)) C hW hl lk_X8_58_1 (c_X8_byteAt_1 hwf h59) ⟨rfl, rfl⟩ ⟨Nat.le_of_ble_eq_true rfl, Nat.le_of_ble_eq_true rfl⟩ rfl rfl rfl (As := [.int v1]) (rest := []) rfl rfl (Nat.le_of_ble_eq_true rfl) dX8_keep_59 ⟨Nat.zero_le _, Nat.zero_le _⟩ (fun H locs hW => ?_)
        show W p l e (rmq 6 131) s m args below meth c H locs 0 0 Q (F0 m 62 ls [.int x59])
        obtain ⟨x62, h62, hf⟩ := bd_of hf
        refine r_callS C hW hl lk_X8_77 (c_X8_isLetter h62) ⟨rfl, rfl⟩ ⟨Nat.le_of_ble_eq_true rfl, Nat.le_of_ble_eq_true rfl⟩ (As := [.int x59]) (rest := []) rfl rfl (Nat.le_of_ble_eq_true rfl) dX8_keep_62 ⟨Nat.zero_le _, Nat.zero_le _⟩ (fun H locs hW => ?_)
        show W p l e (rmq 6 131) s m args below meth c H locs 0 0 Q (F0 m 65 ls [.int x62])
        refine lv_if_eq (tgt := 86) hx hb dX8_keep_65 (by decide) (fun c10 => ?_) (fun c10 => ?_)
        · have hf := (if_pos c10).symm.trans hf
          refine lv_aload_n hx hb dX8_keep_86 rfl (lv_at hl 0 rfl) ?_
          refine lv_iload_n hx hb dX8_keep_87 rfl (lv_at hl 1 rfl) ?_
          obtain ⟨x88, h88, hf⟩ := bd_of hf
          refine r_callVU (k := ((6, 1) : Ky)) C hW hl lk_X8_58_1 (c_X8_byteAt_1 hwf h88) ⟨rfl, rfl⟩ ⟨Nat.le_of_ble_eq_true rfl, Nat.le_of_ble_eq_true rfl⟩ rfl rfl rfl (As := [.int v1]) (rest := []) rfl rfl (Nat.le_of_ble_eq_true rfl) dX8_keep_88 ⟨Nat.zero_le _, Nat.zero_le _⟩ (fun H locs hW => ?_)
          show W p l e (rmq 6 131) s m args below meth c H locs 0 0 Q (F0 m 91 ls [.int x88])
          obtain ⟨x91, h91, hf⟩ := bd_of hf
          refine r_callS C hW hl lk_X8_80 (c_X8_isDigit h91) ⟨rfl, rfl⟩ ⟨Nat.le_of_ble_eq_true rfl, Nat.le_of_ble_eq_true rfl⟩ (As := [.int x88]) (rest := []) rfl rfl (Nat.le_of_ble_eq_true rfl) dX8_keep_91 ⟨Nat.zero_le _, Nat.zero_le _⟩ (fun H locs hW => ?_)
          show W p l e (rmq 6 131) s m args below meth c H locs 0 0 Q (F0 m 94 ls [.int x91])
          refine lv_if_eq (tgt := 142) hx hb dX8_keep_94 (by decide) (fun c11 => ?_) (fun c11 => ?_)
          · have hf := (if_pos c11).symm.trans hf
            refine lv_aload_n hx hb dX8_keep_142 rfl (lv_at hl 0 rfl) ?_
            refine gf_X8_11_1 C hW dX8_keep_143 ?_
            refine lv_aload_n hx hb dX8_keep_146 rfl (lv_at hl 0 rfl) ?_
            refine gf_X8_51_1 C hW dX8_keep_147 ?_
            refine lv_aload_n hx hb dX8_keep_150 rfl (lv_at hl 0 rfl) ?_
            refine lv_iload_n hx hb dX8_keep_151 rfl (lv_at hl 1 rfl) ?_
            obtain ⟨x152, h152, hf⟩ := bd_of hf
            refine r_callVU (k := ((6, 1) : Ky)) C hW hl lk_X8_58_1 (c_X8_byteAt_1 hwf h152) ⟨rfl, rfl⟩ ⟨Nat.le_of_ble_eq_true rfl, Nat.le_of_ble_eq_true rfl⟩ rfl rfl rfl (As := [.int v1]) (rest := [.int (μ9 (6, 1) 3), .ref (oa (7, 1))]) rfl rfl (Nat.le_of_ble_eq_true rfl) dX8_keep_152 ⟨Nat.zero_le _, Nat.zero_le _⟩ (fun H locs hW => ?_)
            show W p l e (rmq 6 131) s m args below meth c H locs 0 0 Q (F0 m 155 ls [.int x152, .int (μ9 (6, 1) 3), .ref (oa (7, 1))])
            refine lv_bipush (v := 32) hx hb dX8_keep_155 (by decide) ?_
            refine lv_icmp_le (tgt := 168) hx hb dX8_keep_157 (by decide) (fun c12 => ?_) (fun c12 => ?_)
            · have hf := (if_pos c12).symm.trans hf
              refine lv_iconst (v := 1) hx hb dX8_keep_168 (by decide) ?_
              obtain ⟨hi13, hf⟩ := ck_of hf
              refine r_iast (k := ((7, 1) : Ky)) (n := 400) C hW rfl (fun _ => rfl) hi13 dX8_keep_169 (fun H locs hW => ?_)
              refine lv_aload_n hx hb dX8_keep_170 rfl (lv_at hl 0 rfl) ?_
              refine lv_dup hx hb dX8_keep_171 rfl ?_
              refine gf_X8_51_1 C hW dX8_keep_172 ?_
              refine lv_iconst (v := 1) hx hb dX8_keep_175 (by decide) ?_
              refine lv_iadd hx hb dX8_keep_176 ?_
              refine pf_X8_51_1 C hW dX8_keep_177 (fun H locs hW => ?_)
              obtain ⟨μ14, hm14, hf⟩ := bd_of hf
              rw [Option.some.inj hm14] at hW
              obtain rfl := Option.some.inj hf
              rw [hQ]
              exact r_vret C hr hk hW rfl rfl dX8_keep_180
            · have hf := (if_neg c12).symm.trans hf
              refine lv_aload_n hx hb dX8_keep_160 rfl (lv_at hl 0 rfl) ?_
              refine lv_iload_n hx hb dX8_keep_161 rfl (lv_at hl 1 rfl) ?_
              obtain ⟨x162, h162, hf⟩ := bd_of hf
              refine r_callVU (k := ((6, 1) : Ky)) C hW hl lk_X8_58_1 (c_X8_byteAt_1 hwf h162) ⟨rfl, rfl⟩ ⟨Nat.le_of_ble_eq_true rfl, Nat.le_of_ble_eq_true rfl⟩ rfl rfl rfl (As := [.int v1]) (rest := [.int (μ9 (6, 1) 3), .ref (oa (7, 1))]) rfl rfl (Nat.le_of_ble_eq_true rfl) dX8_keep_162 ⟨Nat.zero_le _, Nat.zero_le _⟩ (fun H locs hW => ?_)
              show W p l e (rmq 6 131) s m args below meth c H locs 0 0 Q (F0 m 165 ls [.int x162, .int (μ9 (6, 1) 3), .ref (oa (7, 1))])
              refine lv_goto (tgt := 169) hx hb dX8_keep_165 (by decide) ?_
              obtain ⟨hi15, hf⟩ := ck_of hf
              refine r_iast (k := ((7, 1) : Ky)) (n := 400) C hW rfl (fun _ => rfl) hi15 dX8_keep_169 (fun H locs hW => ?_)
              refine lv_aload_n hx hb dX8_keep_170 rfl (lv_at hl 0 rfl) ?_
              refine lv_dup hx hb dX8_keep_171 rfl ?_
              refine gf_X8_51_1 C hW dX8_keep_172 ?_
              refine lv_iconst (v := 1) hx hb dX8_keep_175 (by decide) ?_
              refine lv_iadd hx hb dX8_keep_176 ?_
              refine pf_X8_51_1 C hW dX8_keep_177 (fun H locs hW => ?_)
              obtain ⟨μ16, hm16, hf⟩ := bd_of hf
              rw [Option.some.inj hm16] at hW
              obtain rfl := Option.some.inj hf
              rw [hQ]
              exact r_vret C hr hk hW rfl rfl dX8_keep_180
          · have hf := (if_neg c11).symm.trans hf
            refine lv_aload_n hx hb dX8_keep_97 rfl (lv_at hl 0 rfl) ?_
            refine gf_X8_11_1 C hW dX8_keep_98 ?_
            refine lv_aload_n hx hb dX8_keep_101 rfl (lv_at hl 0 rfl) ?_
            refine gf_X8_51_1 C hW dX8_keep_102 ?_
            refine lv_iload_n hx hb dX8_keep_105 rfl (lv_at hl 2 rfl) ?_
            refine lv_iload_n hx hb dX8_keep_106 rfl (lv_at hl 1 rfl) ?_
            refine lv_isub hx hb dX8_keep_107 ?_
            refine lv_iconst (v := 3) hx hb dX8_keep_108 (by decide) ?_
            refine lv_icmp_gt (tgt := 116) hx hb dX8_keep_109 (by decide) (fun c17 => ?_) (fun c17 => ?_)
            · have hf := (if_pos c17).symm.trans hf
              refine lv_iconst (v := 1) hx hb dX8_keep_116 (by decide) ?_
              exact J117 μ9 (1 : Int32) (μ9 (6, 1) 3) _ _ _ hf hW (lv_sub hl [0, 1, 2] rfl)
            · have hf := (if_neg c17).symm.trans hf
              refine lv_iconst (v := 2) hx hb dX8_keep_112 (by decide) ?_
              refine lv_goto (tgt := 117) hx hb dX8_keep_113 (by decide) ?_
              exact J117 μ9 (2 : Int32) (μ9 (6, 1) 3) _ _ _ hf hW (lv_sub hl [0, 1, 2] rfl)
        · have hf := (if_neg c10).symm.trans hf
          refine lv_aload_n hx hb dX8_keep_68 rfl (lv_at hl 0 rfl) ?_
          refine gf_X8_11_1 C hW dX8_keep_69 ?_
          refine lv_aload_n hx hb dX8_keep_72 rfl (lv_at hl 0 rfl) ?_
          refine gf_X8_51_1 C hW dX8_keep_73 ?_
          refine lv_aload_n hx hb dX8_keep_76 rfl (lv_at hl 0 rfl) ?_
          refine lv_iload_n hx hb dX8_keep_77 rfl (lv_at hl 1 rfl) ?_
          refine lv_iload_n hx hb dX8_keep_78 rfl (lv_at hl 2 rfl) ?_
          obtain ⟨x79, h79, hf⟩ := bd_of hf
          refine r_callVU (k := ((6, 1) : Ky)) C hW hl lk_X8_83_1 (c_X8_kindOfWord_1 hwf h79) ⟨rfl, rfl⟩ ⟨Nat.le_of_ble_eq_true rfl, Nat.le_of_ble_eq_true rfl⟩ rfl rfl rfl (As := [.int v1, .int v2]) (rest := [.int (μ9 (6, 1) 3), .ref (oa (7, 1))]) rfl rfl (Nat.le_of_ble_eq_true rfl) dX8_keep_79 ⟨Nat.zero_le _, Nat.zero_le _⟩ (fun H locs hW => ?_)
          show W p l e (rmq 6 131) s m args below meth c H locs 0 0 Q (F0 m 82 ls [.int x79, .int (μ9 (6, 1) 3), .ref (oa (7, 1))])
          obtain ⟨hi18, hf⟩ := ck_of hf
          refine r_iast (k := ((7, 1) : Ky)) (n := 400) C hW rfl (fun _ => rfl) hi18 dX8_keep_82 (fun H locs hW => ?_)
          refine lv_goto (tgt := 170) hx hb dX8_keep_83 (by decide) ?_
          refine lv_aload_n hx hb dX8_keep_170 rfl (lv_at hl 0 rfl) ?_
          refine lv_dup hx hb dX8_keep_171 rfl ?_
          refine gf_X8_51_1 C hW dX8_keep_172 ?_
          refine lv_iconst (v := 1) hx hb dX8_keep_175 (by decide) ?_
          refine lv_iadd hx hb dX8_keep_176 ?_
          refine pf_X8_51_1 C hW dX8_keep_177 (fun H locs hW => ?_)
          obtain ⟨μ19, hm19, hf⟩ := bd_of hf
          rw [Option.some.inj hm19] at hW
          obtain rfl := Option.some.inj hf
          rw [hQ]
          exact r_vret C hr hk hW rfl rfl dX8_keep_180
      · have hf := (if_neg c6).symm.trans hf
        obtain rfl := Option.some.inj hf
        rw [hQ]
        exact r_vret C hr hk hW rfl rfl dX8_keep_36
set_option maxHeartbeats 4000000 in
set_option maxRecDepth 100000 in
theorem c_X8_open_1 {l : Launch} {D : va_G} {tc : Nat → ClassId} {ro : Ro} {oa : Ky → Nat} {aa : Nat → Nat} {sh : Sh} {ln : Nat → Nat} {μ : Mm} {v2 : Int32} {res : Mm} (hwf : WfS sh) (hf : f_X8_open_1 sh ln μ v2 = some res) : Ct l D tc ro (faB oa aa sh) (feB tc oa aa sh ln) yX8_open cX8_open 5 none (rmq 7 153) [.ref (oa (6, 1)), .ref (oa (2, 0)), .int v2] μ none res := by
  refine Ct.of (by decide) (Nat.le_of_ble_eq_true rfl) (fun p e s m args below meth c A C hr hk hW ls hl => ?_)
  have hx := C.1.1
  have hb := C.1.2.1
  obtain ⟨Q, hQ⟩ : ∃ Q, Q = MQ below (Ctq D (faB oa aa sh) (feB tc oa aa sh ln) none res A) args s 0 0 A := ⟨_, rfl⟩
  rw [← hQ]
  have hl : lv_has ls 5 [(0, .ref (oa (6, 1))), (1, .ref (oa (2, 0))), (2, .int v2)] := hl
  unfold f_X8_open_1 at hf
  refine lv_aload_n hx hb dX8_open_0 rfl (lv_at hl 0 rfl) ?_
  refine lv_aload_n hx hb dX8_open_1 rfl (lv_at hl 1 rfl) ?_
  refine pr_X8_44_1_tape C hW dX8_open_2 (fun H locs hW => ?_)
  refine lv_aload_n hx hb dX8_open_5 rfl (lv_at hl 0 rfl) ?_
  refine lv_iload_n hx hb dX8_open_6 rfl (lv_at hl 2 rfl) ?_
  refine pf_X8_48_1 C hW dX8_open_7 (fun H locs hW => ?_)
  refine lv_aload_n hx hb dX8_open_10 rfl (lv_at hl 0 rfl) ?_
  refine lv_iconst (v := -1) hx hb dX8_open_11 (by decide) ?_
  refine pf_X8_23_1 C hW dX8_open_12 (fun H locs hW => ?_)
  refine lv_aload_n hx hb dX8_open_15 rfl (lv_at hl 0 rfl) ?_
  refine lv_iconst (v := 0) hx hb dX8_open_16 (by decide) ?_
  refine pf_X8_51_1 C hW dX8_open_17 (fun H locs hW => ?_)
  obtain ⟨μ2, hm2, hf⟩ := bd_of hf
  rw [Option.some.inj hm2] at hW
  refine lv_iconst (v := 0) hx hb dX8_open_20 (by decide) ?_
  refine lv_istore_n (lv' := [(3, .int (0 : Int32)), (0, .ref (oa (6, 1))), (1, .ref (oa (2, 0))), (2, .int v2)]) hx hb dX8_open_21 rfl hl (by decide) rfl (fun ls hl => ?_)
  have L22 : ∀ (μ : Mm) (v3 : Int32) (H : Heap) (locs : List Loc) (ls : Array Slot), Wh (fun z : Mm × Int32 => f_X8_open_1_L22 sh ln z.1 z.2) (μ, v3) = some res → Wd D (faB oa aa sh) (feB tc oa aa sh ln) A s.heap μ H locs → lv_has ls 5 [(0, .ref (oa (6, 1))), (3, .int v3)] → W p l e (rmq 7 153) s m args below meth c H locs 0 0 Q (F0 m 22 ls []) := by
    intro μ v3 H locs ls hf hW hl
    refine Wh_rule hf (fun z : Mm × Int32 => ∀ (H : Heap) (locs : List Loc) (ls : Array Slot), Wd D (faB oa aa sh) (feB tc oa aa sh ln) A s.heap z.1 H locs → lv_has ls 5 [(0, .ref (oa (6, 1))), (3, .int z.2)] → W p l e (rmq 7 153) s m args below meth c H locs 0 0 Q (F0 m 22 ls [])) (fun z o1 hf Kl1 Kr1 => ?_) _ _ _ hW hl
    obtain ⟨μ, v3⟩ := z
    intro H locs ls hW hl
    have hf : f_X8_open_1_L22 sh ln μ v3 = some o1 := hf
    unfold f_X8_open_1_L22 at hf
    have hW : Wd D (faB oa aa sh) (feB tc oa aa sh ln) A s.heap μ H locs := hW
    have hl : lv_has ls 5 [(0, .ref (oa (6, 1))), (3, .int v3)] := hl
    refine lv_iload_n hx hb dX8_open_22 rfl (lv_at hl 1 rfl) ?_
    refine lv_aload_n hx hb dX8_open_23 rfl (lv_at hl 0 rfl) ?_
    refine gf_X8_48_1 C hW dX8_open_24 ?_
    refine lv_icmp_ge (tgt := 66) hx hb dX8_open_27 (by decide) (fun c3 => ?_) (fun c3 => ?_)
    · have hf := (if_pos c3).symm.trans hf
      obtain ⟨x9004, hf, hx9004⟩ := map_of hf
      have e9004 := (Kr1 _ hx9004.symm).symm
      subst e9004
      refine lv_aload_n hx hb dX8_open_66 rfl (lv_at hl 0 rfl) ?_
      refine lv_iconst (v := 0) hx hb dX8_open_67 (by decide) ?_
      refine pf_X8_71_1 C hW dX8_open_68 (fun H locs hW => ?_)
      refine lv_aload_n hx hb dX8_open_71 rfl (lv_at hl 0 rfl) ?_
      obtain ⟨x72, h72, hf⟩ := bd_of hf
      refine r_callVU (k := ((6, 1) : Ky)) C hW hl lk_X8_74_1 (c_X8_step_1 hwf h72) ⟨rfl, rfl⟩ ⟨Nat.le_of_ble_eq_true rfl, Nat.le_of_ble_eq_true rfl⟩ rfl rfl rfl (As := []) (rest := []) rfl rfl (Nat.le_of_ble_eq_true rfl) dX8_open_72 ⟨Nat.zero_le _, Nat.zero_le _⟩ (fun H locs hW => ?_)
      show W p l e (rmq 7 153) s m args below meth c H locs 0 0 Q (F0 m 75 ls [])
      obtain rfl := Option.some.inj hf
      rw [hQ]
      exact r_vret C hr hk hW rfl rfl dX8_open_75
    · have hf := (if_neg c3).symm.trans hf
      refine lv_aload_n hx hb dX8_open_30 rfl (lv_at hl 0 rfl) ?_
      refine lv_iload_n hx hb dX8_open_31 rfl (lv_at hl 1 rfl) ?_
      obtain ⟨x32, h32, hf⟩ := bd_of hf
      refine r_callVU (k := ((6, 1) : Ky)) C hW hl lk_X8_54_1 (c_X8_endOfThing_1 hwf h32) ⟨rfl, rfl⟩ ⟨Nat.le_of_ble_eq_true rfl, Nat.le_of_ble_eq_true rfl⟩ rfl rfl rfl (As := [.int v3]) (rest := []) rfl rfl (Nat.le_of_ble_eq_true rfl) dX8_open_32 ⟨Nat.zero_le _, Nat.zero_le _⟩ (fun H locs hW => ?_)
      show W p l e (rmq 7 153) s m args below meth c H locs 0 0 Q (F0 m 35 ls [.int x32])
      refine lv_istore (lv' := [(4, .int x32), (0, .ref (oa (6, 1))), (3, .int v3)]) hx hb dX8_open_35 hl (by decide) rfl (fun ls hl => ?_)
      refine lv_aload_n hx hb dX8_open_37 rfl (lv_at hl 1 rfl) ?_
      refine lv_iload_n hx hb dX8_open_38 rfl (lv_at hl 2 rfl) ?_
      obtain ⟨x39, h39, hf⟩ := bd_of hf
      refine r_callVU (k := ((6, 1) : Ky)) C hW hl lk_X8_58_1 (c_X8_byteAt_1 hwf h39) ⟨rfl, rfl⟩ ⟨Nat.le_of_ble_eq_true rfl, Nat.le_of_ble_eq_true rfl⟩ rfl rfl rfl (As := [.int v3]) (rest := []) rfl rfl (Nat.le_of_ble_eq_true rfl) dX8_open_39 ⟨Nat.zero_le _, Nat.zero_le _⟩ (fun H locs hW => ?_)
      show W p l e (rmq 7 153) s m args below meth c H locs 0 0 Q (F0 m 42 ls [.int x39])
      refine lv_bipush (v := 32) hx hb dX8_open_42 (by decide) ?_
      refine lv_icmp_eq (tgt := 54) hx hb dX8_open_44 (by decide) (fun c5 => ?_) (fun c5 => ?_)
      · have hf := (if_pos c5).symm.trans hf
        refine lv_iload hx hb dX8_open_54 (lv_at hl 0 rfl) ?_
        refine lv_iload_n hx hb dX8_open_56 rfl (lv_at hl 2 rfl) ?_
        refine lv_iconst (v := 1) hx hb dX8_open_57 (by decide) ?_
        refine lv_iadd hx hb dX8_open_58 ?_
        refine r_mmax C hl kw_1170 kw_191 kw_140 kw_192 (Nat.le_of_ble_eq_true rfl) (Nat.le_of_ble_eq_true rfl) ⟨Nat.zero_le _, Nat.zero_le _⟩ dX8_open_59 ?_
        refine lv_istore_n (lv' := [(3, .int (if x32 < (v3 + (1 : Int32)) then (v3 + (1 : Int32)) else x32)), (4, .int x32), (0, .ref (oa (6, 1)))]) hx hb dX8_open_62 rfl hl (by decide) rfl (fun ls hl => ?_)
        refine lv_goto (tgt := 22) hx hb dX8_open_63 (by decide) ?_
        obtain rfl := Option.some.inj hf
        exact Kl1 _ rfl _ _ _ hW (lv_sub hl [2, 0] rfl)
      · have hf := (if_neg c5).symm.trans hf
        refine lv_aload_n hx hb dX8_open_47 rfl (lv_at hl 1 rfl) ?_
        refine lv_iload_n hx hb dX8_open_48 rfl (lv_at hl 2 rfl) ?_
        refine lv_iload hx hb dX8_open_49 (lv_at hl 0 rfl) ?_
        obtain ⟨x51, h51, hf⟩ := bd_of hf
        refine r_callVU (k := ((6, 1) : Ky)) C hW hl lk_X8_61_1 (c_X8_keep_1 hwf h51) ⟨rfl, rfl⟩ ⟨Nat.le_of_ble_eq_true rfl, Nat.le_of_ble_eq_true rfl⟩ rfl rfl rfl (As := [.int v3, .int x32]) (rest := []) rfl rfl (Nat.le_of_ble_eq_true rfl) dX8_open_51 ⟨Nat.zero_le _, Nat.zero_le _⟩ (fun H locs hW => ?_)
        show W p l e (rmq 7 153) s m args below meth c H locs 0 0 Q (F0 m 54 ls [])
        refine lv_iload hx hb dX8_open_54 (lv_at hl 0 rfl) ?_
        refine lv_iload_n hx hb dX8_open_56 rfl (lv_at hl 2 rfl) ?_
        refine lv_iconst (v := 1) hx hb dX8_open_57 (by decide) ?_
        refine lv_iadd hx hb dX8_open_58 ?_
        refine r_mmax C hl kw_1170 kw_191 kw_140 kw_192 (Nat.le_of_ble_eq_true rfl) (Nat.le_of_ble_eq_true rfl) ⟨Nat.zero_le _, Nat.zero_le _⟩ dX8_open_59 ?_
        refine lv_istore_n (lv' := [(3, .int (if x32 < (v3 + (1 : Int32)) then (v3 + (1 : Int32)) else x32)), (4, .int x32), (0, .ref (oa (6, 1)))]) hx hb dX8_open_62 rfl hl (by decide) rfl (fun ls hl => ?_)
        refine lv_goto (tgt := 22) hx hb dX8_open_63 (by decide) ?_
        obtain rfl := Option.some.inj hf
        exact Kl1 _ rfl _ _ _ hW (lv_sub hl [2, 0] rfl)
  exact L22 μ2 (0 : Int32) _ _ _ hf hW (lv_sub hl [1, 0] rfl)
set_option maxHeartbeats 4000000 in
set_option maxRecDepth 100000 in
theorem c_X3_startAnew {l : Launch} {D : va_G} {tc : Nat → ClassId} {ro : Ro} {oa : Ky → Nat} {aa : Nat → Nat} {sh : Sh} {ln : Nat → Nat} {μ : Mm} {res : Mm} (hwf : WfS sh) (hf : f_X3_startAnew sh ln μ = some res) : Ct l D tc ro (faB oa aa sh) (feB tc oa aa sh ln) yX3_startAnew cX3_startAnew 1 none (rmq 0 0) [.ref (oa (6, 1))] μ none res := by
  refine Ct.of (by decide) (Nat.le_of_ble_eq_true rfl) (fun p e s m args below meth c A C hr hk hW ls hl => ?_)
  have hx := C.1.1
  have hb := C.1.2.1
  obtain ⟨Q, hQ⟩ : ∃ Q, Q = MQ below (Ctq D (faB oa aa sh) (feB tc oa aa sh ln) none res A) args s 0 0 A := ⟨_, rfl⟩
  rw [← hQ]
  have hl : lv_has ls 1 [(0, .ref (oa (6, 1)))] := hl
  unfold f_X3_startAnew at hf
  refine lv_aload_n hx hb dX3_startAnew_0 rfl (lv_at hl 0 rfl) ?_
  refine lv_iconst (v := 0) hx hb dX3_startAnew_1 (by decide) ?_
  refine pf_X3_15 C hW dX3_startAnew_2 (fun H locs hW => ?_)
  obtain rfl := Option.some.inj hf
  rw [hQ]
  exact r_vret C hr hk hW rfl rfl dX3_startAnew_5
