set_option maxHeartbeats 4000000 in
set_option maxRecDepth 100000 in
theorem c_X4_sayAnswer {l : Launch} {D : va_G} {tc : Nat → ClassId} {ro : Ro} {oa : Ky → Nat} {aa : Nat → Nat} {sh : Sh} {ln : Nat → Nat} {j1 cl2 : Nat} {μ : Mm} {v3 v4 v5 : Int32} {res : Mm} (hwf : WfS sh) (hj1 : sh 2 j1 = 1) (hc2 : cex sh cl2 = true) (hf : f_X4_sayAnswer sh ln j1 cl2 μ v3 v4 v5 = some res) : Ct l D tc ro (faB oa aa sh) (feB tc oa aa sh ln) yX4_sayAnswer cX4_sayAnswer 9 none (rmq 4 93) [.ref (oa (3, 0)), .ref (oa (13, j1)), .ref (oa (11, cl2)), .int v3, .int v4, .int v5] μ none res := by
  refine Ct.of (by decide) (Nat.le_of_ble_eq_true rfl) (fun p e s m args below meth c A C hr hk hW ls hl => ?_)
  have hx := C.1.1
  have hb := C.1.2.1
  obtain ⟨Q, hQ⟩ : ∃ Q, Q = MQ below (Ctq D (faB oa aa sh) (feB tc oa aa sh ln) none res A) args s 0 0 A := ⟨_, rfl⟩
  rw [← hQ]
  have hl : lv_has ls 9 [(0, .ref (oa (3, 0))), (1, .ref (oa (13, j1))), (2, .ref (oa (11, cl2))), (3, .int v3), (4, .int v4), (5, .int v5)] := hl
  unfold f_X4_sayAnswer at hf
  refine lv_aload_n hx hb dX4_sayAnswer_0 rfl (lv_at hl 0 rfl) ?_
  refine lv_aload_n hx hb dX4_sayAnswer_1 rfl (lv_at hl 1 rfl) ?_
  refine lv_aload_n hx hb dX4_sayAnswer_2 rfl (lv_at hl 2 rfl) ?_
  refine lv_iload_n hx hb dX4_sayAnswer_3 rfl (lv_at hl 3 rfl) ?_
  refine lv_iload hx hb dX4_sayAnswer_4 (lv_at hl 4 rfl) ?_
  obtain ⟨x6, h6, hf⟩ := bd_of hf
  refine r_callV (k := ((3, 0) : Ky)) C hW hl lk_X4_95 (c_X4_spot hwf hj1 hc2 h6) ⟨rfl, rfl⟩ ⟨Nat.le_of_ble_eq_true rfl, Nat.le_of_ble_eq_true rfl⟩ rfl rfl rfl (As := [.ref (oa (13, j1)), .ref (oa (11, cl2)), .int v3, .int v4]) (rest := []) rfl rfl (Nat.le_of_ble_eq_true rfl) dX4_sayAnswer_6 ⟨Nat.zero_le _, Nat.zero_le _⟩ (fun H locs hW => ?_)
  show W p l e (rmq 4 93) s m args below meth c H locs 0 0 Q (F0 m 9 ls [])
  refine lv_iconst (v := 1) hx hb dX4_sayAnswer_9 (by decide) ?_
  refine lv_iload hx hb dX4_sayAnswer_10 (lv_at hl 5 rfl) ?_
  refine lv_ishl hx hb dX4_sayAnswer_12 ?_
  refine lv_istore (lv' := [(6, .int ((1 : Int32) <<< (v5 &&& 31))), (0, .ref (oa (3, 0))), (1, .ref (oa (13, j1))), (2, .ref (oa (11, cl2))), (3, .int v3), (4, .int v4), (5, .int v5)]) hx hb dX4_sayAnswer_13 hl (by decide) rfl (fun ls hl => ?_)
  refine lv_iconst (v := 0) hx hb dX4_sayAnswer_15 (by decide) ?_
  refine lv_istore (lv' := [(7, .int (0 : Int32)), (6, .int ((1 : Int32) <<< (v5 &&& 31))), (0, .ref (oa (3, 0))), (1, .ref (oa (13, j1))), (2, .ref (oa (11, cl2))), (3, .int v3), (4, .int v4), (5, .int v5)]) hx hb dX4_sayAnswer_16 hl (by decide) rfl (fun ls hl => ?_)
  have L18 : ∀ (μ : Mm) (v6 v7 : Int32) (H : Heap) (locs : List Loc) (ls : Array Slot), Wh (fun z : Mm × Int32 => f_X4_sayAnswer_L18 sh ln j1 cl2 v3 v6 z.1 z.2) (μ, v7) = some res → Wd D (faB oa aa sh) (feB tc oa aa sh ln) A s.heap μ H locs → lv_has ls 9 [(0, .ref (oa (3, 0))), (1, .ref (oa (13, j1))), (3, .int v3), (6, .int v6), (7, .int v7)] → W p l e (rmq 4 93) s m args below meth c H locs 0 0 Q (F0 m 18 ls []) := by
    intro μ v6 v7 H locs ls hf hW hl
    refine Wh_rule hf (fun z : Mm × Int32 => ∀ (H : Heap) (locs : List Loc) (ls : Array Slot), Wd D (faB oa aa sh) (feB tc oa aa sh ln) A s.heap z.1 H locs → lv_has ls 9 [(0, .ref (oa (3, 0))), (1, .ref (oa (13, j1))), (3, .int v3), (6, .int v6), (7, .int z.2)] → W p l e (rmq 4 93) s m args below meth c H locs 0 0 Q (F0 m 18 ls [])) (fun z o1 hf Kl1 Kr1 => ?_) _ _ _ hW hl
    obtain ⟨μ, v7⟩ := z
    intro H locs ls hW hl
    have hf : f_X4_sayAnswer_L18 sh ln j1 cl2 v3 v6 μ v7 = some o1 := hf
    unfold f_X4_sayAnswer_L18 at hf
    have hW : Wd D (faB oa aa sh) (feB tc oa aa sh ln) A s.heap μ H locs := hW
    have hl : lv_has ls 9 [(0, .ref (oa (3, 0))), (1, .ref (oa (13, j1))), (3, .int v3), (6, .int v6), (7, .int v7)] := hl
    refine lv_iload hx hb dX4_sayAnswer_18 (lv_at hl 4 rfl) ?_
    refine lv_aload_n hx hb dX4_sayAnswer_20 rfl (lv_at hl 1 rfl) ?_
    refine gf_X4_52 C hW hj1 dX4_sayAnswer_21 ?_
    refine lv_icmp_ge (tgt := 76) hx hb dX4_sayAnswer_24 (by decide) (fun c1 => ?_) (fun c1 => ?_)
    · have hf := (if_pos c1).symm.trans hf
      obtain ⟨x9002, hf, hx9002⟩ := map_of hf
      have e9002 := (Kr1 _ hx9002.symm).symm
      subst e9002
      obtain rfl := Option.some.inj hf
      rw [hQ]
      exact r_vret C hr hk hW rfl rfl dX4_sayAnswer_76
    · have hf := (if_neg c1).symm.trans hf
      refine lv_aload_n hx hb dX4_sayAnswer_27 rfl (lv_at hl 0 rfl) ?_
      refine lv_aload_n hx hb dX4_sayAnswer_28 rfl (lv_at hl 1 rfl) ?_
      refine lv_iload_n hx hb dX4_sayAnswer_29 rfl (lv_at hl 2 rfl) ?_
      refine lv_iload hx hb dX4_sayAnswer_30 (lv_at hl 4 rfl) ?_
      obtain ⟨x32, h32, hf⟩ := bd_of hf
      refine r_callV (k := ((3, 0) : Ky)) C hW hl lk_X4_99 (c_X4_spotted hwf hj1 h32) ⟨rfl, rfl⟩ ⟨Nat.le_of_ble_eq_true rfl, Nat.le_of_ble_eq_true rfl⟩ rfl rfl rfl (As := [.ref (oa (13, j1)), .int v3, .int v7]) (rest := []) rfl rfl (Nat.le_of_ble_eq_true rfl) dX4_sayAnswer_32 ⟨Nat.zero_le _, Nat.zero_le _⟩ (fun H locs hW => ?_)
      show W p l e (rmq 4 93) s m args below meth c H locs 0 0 Q (F0 m 35 ls [.int x32])
      refine lv_istore (lv' := [(8, .int x32), (0, .ref (oa (3, 0))), (1, .ref (oa (13, j1))), (3, .int v3), (6, .int v6), (7, .int v7)]) hx hb dX4_sayAnswer_35 hl (by decide) rfl (fun ls hl => ?_)
      refine lv_aload_n hx hb dX4_sayAnswer_37 rfl (lv_at hl 1 rfl) ?_
      refine gf_X4_28 C hW dX4_sayAnswer_38 ?_
      refine lv_iload hx hb dX4_sayAnswer_41 (lv_at hl 5 rfl) ?_
      refine lv_iload hx hb dX4_sayAnswer_43 (lv_at hl 0 rfl) ?_
      refine lv_iload hx hb dX4_sayAnswer_45 (lv_at hl 4 rfl) ?_
      refine lv_icmp_ne (tgt := 54) hx hb dX4_sayAnswer_47 (by decide) (fun c3 => ?_) (fun c3 => ?_)
      · have hf := (if_neg c3).symm.trans hf
        refine lv_iload hx hb dX4_sayAnswer_54 (lv_at hl 0 rfl) ?_
        refine lv_iload hx hb dX4_sayAnswer_56 (lv_at hl 4 rfl) ?_
        refine lv_iand hx hb dX4_sayAnswer_58 ?_
        refine lv_if_ne (tgt := 66) hx hb dX4_sayAnswer_59 (by decide) (fun c4 => ?_) (fun c4 => ?_)
        · have hf := (if_neg c4).symm.trans hf
          refine lv_iconst (v := 2) hx hb dX4_sayAnswer_66 (by decide) ?_
          obtain ⟨x67, h67, hf⟩ := bd_of hf
          refine r_callV (k := ((11, 4) : Ky)) C hW hl lk_X4_110 (c_X1_put hwf rfl h67) ⟨rfl, rfl⟩ ⟨Nat.le_of_ble_eq_true rfl, Nat.le_of_ble_eq_true rfl⟩ rfl (faB_11 rfl) rfl (As := [.int v7, .int (2 : Int32)]) (rest := []) rfl rfl (Nat.le_of_ble_eq_true rfl) dX4_sayAnswer_67 ⟨Nat.zero_le _, Nat.zero_le _⟩ (fun H locs hW => ?_)
          show W p l e (rmq 4 93) s m args below meth c H locs 0 0 Q (F0 m 70 ls [])
          refine lv_iinc (v := (v7 + (1 : Int32))) (lv' := [(7, .int (v7 + (1 : Int32))), (8, .int x32), (0, .ref (oa (3, 0))), (1, .ref (oa (13, j1))), (3, .int v3), (6, .int v6)]) hx hb dX4_sayAnswer_70 hl (k := 5) rfl rfl (by decide) rfl (fun ls hl => ?_)
          refine lv_goto (tgt := 18) hx hb dX4_sayAnswer_73 (by decide) ?_
          obtain rfl := Option.some.inj hf
          exact Kl1 _ rfl _ _ _ hW (lv_sub hl [2, 3, 4, 5, 0] rfl)
        · have hf := (if_pos c4).symm.trans hf
          refine lv_iconst (v := 0) hx hb dX4_sayAnswer_62 (by decide) ?_
          refine lv_goto (tgt := 67) hx hb dX4_sayAnswer_63 (by decide) ?_
          obtain ⟨x67, h67, hf⟩ := bd_of hf
          refine r_callV (k := ((11, 4) : Ky)) C hW hl lk_X4_110 (c_X1_put hwf rfl h67) ⟨rfl, rfl⟩ ⟨Nat.le_of_ble_eq_true rfl, Nat.le_of_ble_eq_true rfl⟩ rfl (faB_11 rfl) rfl (As := [.int v7, .int (0 : Int32)]) (rest := []) rfl rfl (Nat.le_of_ble_eq_true rfl) dX4_sayAnswer_67 ⟨Nat.zero_le _, Nat.zero_le _⟩ (fun H locs hW => ?_)
          show W p l e (rmq 4 93) s m args below meth c H locs 0 0 Q (F0 m 70 ls [])
          refine lv_iinc (v := (v7 + (1 : Int32))) (lv' := [(7, .int (v7 + (1 : Int32))), (8, .int x32), (0, .ref (oa (3, 0))), (1, .ref (oa (13, j1))), (3, .int v3), (6, .int v6)]) hx hb dX4_sayAnswer_70 hl (k := 5) rfl rfl (by decide) rfl (fun ls hl => ?_)
          refine lv_goto (tgt := 18) hx hb dX4_sayAnswer_73 (by decide) ?_
          obtain rfl := Option.some.inj hf
          exact Kl1 _ rfl _ _ _ hW (lv_sub hl [2, 3, 4, 5, 0] rfl)
      · have hf := (if_pos c3).symm.trans hf
        refine lv_iconst (v := 1) hx hb dX4_sayAnswer_50 (by decide) ?_
        refine lv_goto (tgt := 67) hx hb dX4_sayAnswer_51 (by decide) ?_
        obtain ⟨x67, h67, hf⟩ := bd_of hf
        refine r_callV (k := ((11, 4) : Ky)) C hW hl lk_X4_110 (c_X1_put hwf rfl h67) ⟨rfl, rfl⟩ ⟨Nat.le_of_ble_eq_true rfl, Nat.le_of_ble_eq_true rfl⟩ rfl (faB_11 rfl) rfl (As := [.int v7, .int (1 : Int32)]) (rest := []) rfl rfl (Nat.le_of_ble_eq_true rfl) dX4_sayAnswer_67 ⟨Nat.zero_le _, Nat.zero_le _⟩ (fun H locs hW => ?_)
        show W p l e (rmq 4 93) s m args below meth c H locs 0 0 Q (F0 m 70 ls [])
        refine lv_iinc (v := (v7 + (1 : Int32))) (lv' := [(7, .int (v7 + (1 : Int32))), (8, .int x32), (0, .ref (oa (3, 0))), (1, .ref (oa (13, j1))), (3, .int v3), (6, .int v6)]) hx hb dX4_sayAnswer_70 hl (k := 5) rfl rfl (by decide) rfl (fun ls hl => ?_)
        refine lv_goto (tgt := 18) hx hb dX4_sayAnswer_73 (by decide) ?_
        obtain rfl := Option.some.inj hf
        exact Kl1 _ rfl _ _ _ hW (lv_sub hl [2, 3, 4, 5, 0] rfl)
  exact L18 x6 ((1 : Int32) <<< (v5 &&& 31)) (0 : Int32) _ _ _ hf hW (lv_sub hl [2, 3, 5, 1, 0] rfl)
set_option maxHeartbeats 4000000 in
set_option maxRecDepth 100000 in
theorem c_X4_saidIn {l : Launch} {D : va_G} {tc : Nat → ClassId} {ro : Ro} {oa : Ky → Nat} {aa : Nat → Nat} {sh : Sh} {ln : Nat → Nat} {μ : Mm} {v1 : Int32} {res : Int32} (hwf : WfS sh) (hf : f_X4_saidIn sh ln μ v1 = some res) : Ct l D tc ro (faB oa aa sh) (feB tc oa aa sh ln) yX4_saidIn cX4_saidIn 2 (some .int) (rmq 1 21) [.ref (oa (3, 0)), .int v1] μ (some (.int res)) μ := by
  refine Ct.of (by decide) (Nat.le_of_ble_eq_true rfl) (fun p e s m args below meth c A C hr hk hW ls hl => ?_)
  have hx := C.1.1
  have hb := C.1.2.1
  obtain ⟨Q, hQ⟩ : ∃ Q, Q = MQ below (Ctq D (faB oa aa sh) (feB tc oa aa sh ln) (some (.int res)) μ A) args s 0 0 A := ⟨_, rfl⟩
  rw [← hQ]
  have hl : lv_has ls 2 [(0, .ref (oa (3, 0))), (1, .int v1)] := hl
  unfold f_X4_saidIn at hf
  refine lv_aload_n hx hb dX4_saidIn_0 rfl (lv_at hl 0 rfl) ?_
  refine gf_X4_28 C hW dX4_saidIn_1 ?_
  refine lv_iload_n hx hb dX4_saidIn_4 rfl (lv_at hl 1 rfl) ?_
  obtain ⟨x5, h5, hf⟩ := bd_of hf
  refine r_callV (k := ((11, 4) : Ky)) C hW hl lk_X4_56 (c_X1_at hwf rfl h5) ⟨rfl, rfl⟩ ⟨Nat.le_of_ble_eq_true rfl, Nat.le_of_ble_eq_true rfl⟩ rfl (faB_11 rfl) rfl (As := [.int v1]) (rest := []) rfl rfl (Nat.le_of_ble_eq_true rfl) dX4_saidIn_5 ⟨Nat.zero_le _, Nat.zero_le _⟩ (fun H locs hW => ?_)
  show W p l e (rmq 1 21) s m args below meth c H locs 0 0 Q (F0 m 8 ls [.int x5])
  obtain rfl := Option.some.inj hf
  rw [hQ]
  exact r_iret C hr hk hW rfl rfl dX4_saidIn_8
set_option maxHeartbeats 4000000 in
set_option maxRecDepth 100000 in
theorem c_X4_sureIfHeard {l : Launch} {D : va_G} {tc : Nat → ClassId} {ro : Ro} {oa : Ky → Nat} {aa : Nat → Nat} {sh : Sh} {ln : Nat → Nat} {j1 cl2 : Nat} {μ : Mm} {v3 : Int32} {res : Int32} (hwf : WfS sh) (hj1 : sh 2 j1 = 1) (hc2 : cex sh cl2 = true) (hf : f_X4_sureIfHeard sh ln j1 cl2 μ v3 = some res) : Ct l D tc ro (faB oa aa sh) (feB tc oa aa sh ln) yX4_sureIfHeard cX4_sureIfHeard 8 (some .boolean) (rmq 2 44) [.ref (oa (3, 0)), .ref (oa (13, j1)), .ref (oa (11, cl2)), .int v3] μ (some (.int res)) μ := by
  refine Ct.of (by decide) (Nat.le_of_ble_eq_true rfl) (fun p e s m args below meth c A C hr hk hW ls hl => ?_)
  have hx := C.1.1
  have hb := C.1.2.1
  obtain ⟨Q, hQ⟩ : ∃ Q, Q = MQ below (Ctq D (faB oa aa sh) (feB tc oa aa sh ln) (some (.int res)) μ A) args s 0 0 A := ⟨_, rfl⟩
  rw [← hQ]
  have hl : lv_has ls 8 [(0, .ref (oa (3, 0))), (1, .ref (oa (13, j1))), (2, .ref (oa (11, cl2))), (3, .int v3)] := hl
  unfold f_X4_sureIfHeard at hf
  refine lv_aload_n hx hb dX4_sureIfHeard_0 rfl (lv_at hl 1 rfl) ?_
  refine lv_iload_n hx hb dX4_sureIfHeard_1 rfl (lv_at hl 3 rfl) ?_
  refine lv_aload_n hx hb dX4_sureIfHeard_2 rfl (lv_at hl 1 rfl) ?_
  refine gf_X4_81 C hW hj1 dX4_sureIfHeard_3 ?_
  obtain ⟨x6, h6, hf⟩ := bd_of hf
  refine r_callV (k := ((13, j1) : Ky)) C hW hl lk_X4_48 (c_X6_group hwf hj1 h6) ⟨rfl, rfl⟩ ⟨Nat.le_of_ble_eq_true rfl, Nat.le_of_ble_eq_true rfl⟩ rfl (faB_13 hj1) rfl (As := [.int v3, .int (μ (13, j1) 3)]) (rest := []) rfl rfl (Nat.le_of_ble_eq_true rfl) dX4_sureIfHeard_6 ⟨Nat.zero_le _, Nat.zero_le _⟩ (fun H locs hW => ?_)
  show W p l e (rmq 2 44) s m args below meth c H locs 0 0 Q (F0 m 9 ls [.int x6])
  refine lv_istore (lv' := [(4, .int x6), (0, .ref (oa (3, 0))), (1, .ref (oa (13, j1))), (2, .ref (oa (11, cl2))), (3, .int v3)]) hx hb dX4_sureIfHeard_9 hl (by decide) rfl (fun ls hl => ?_)
  refine lv_aload_n hx hb dX4_sureIfHeard_11 rfl (lv_at hl 1 rfl) ?_
  refine gf_X4_28 C hW dX4_sureIfHeard_12 ?_
  refine lv_aload_n hx hb dX4_sureIfHeard_15 rfl (lv_at hl 2 rfl) ?_
  refine gf_X4_81 C hW hj1 dX4_sureIfHeard_16 ?_
  obtain ⟨x19, h19, hf⟩ := bd_of hf
  refine r_callV (k := ((11, 4) : Ky)) C hW hl lk_X4_56 (c_X1_at hwf rfl h19) ⟨rfl, rfl⟩ ⟨Nat.le_of_ble_eq_true rfl, Nat.le_of_ble_eq_true rfl⟩ rfl (faB_11 rfl) rfl (As := [.int (μ (13, j1) 3)]) (rest := []) rfl rfl (Nat.le_of_ble_eq_true rfl) dX4_sureIfHeard_19 ⟨Nat.zero_le _, Nat.zero_le _⟩ (fun H locs hW => ?_)
  show W p l e (rmq 2 44) s m args below meth c H locs 0 0 Q (F0 m 22 ls [.int x19])
  refine lv_istore (lv' := [(5, .int x19), (4, .int x6), (0, .ref (oa (3, 0))), (1, .ref (oa (13, j1))), (2, .ref (oa (11, cl2))), (3, .int v3)]) hx hb dX4_sureIfHeard_22 hl (by decide) rfl (fun ls hl => ?_)
  refine lv_iconst (v := 0) hx hb dX4_sureIfHeard_24 (by decide) ?_
  refine lv_istore (lv' := [(6, .int (0 : Int32)), (5, .int x19), (4, .int x6), (0, .ref (oa (3, 0))), (1, .ref (oa (13, j1))), (2, .ref (oa (11, cl2))), (3, .int v3)]) hx hb dX4_sureIfHeard_25 hl (by decide) rfl (fun ls hl => ?_)
  refine lv_iconst (v := 0) hx hb dX4_sureIfHeard_27 (by decide) ?_
  refine lv_istore (lv' := [(7, .int (0 : Int32)), (6, .int (0 : Int32)), (5, .int x19), (4, .int x6), (0, .ref (oa (3, 0))), (1, .ref (oa (13, j1))), (2, .ref (oa (11, cl2))), (3, .int v3)]) hx hb dX4_sureIfHeard_28 hl (by decide) rfl (fun ls hl => ?_)
  have L30 : ∀ (v4 v5 v6 v7 : Int32) (H : Heap) (locs : List Loc) (ls : Array Slot), Wh (fun z : Int32 × Int32 => f_X4_sureIfHeard_L30 sh ln j1 cl2 v3 v4 v5 μ z.1 z.2) (v6, v7) = some res → Wd D (faB oa aa sh) (feB tc oa aa sh ln) A s.heap μ H locs → lv_has ls 8 [(0, .ref (oa (3, 0))), (1, .ref (oa (13, j1))), (2, .ref (oa (11, cl2))), (3, .int v3), (4, .int v4), (5, .int v5), (6, .int v6), (7, .int v7)] → W p l e (rmq 2 44) s m args below meth c H locs 0 0 Q (F0 m 30 ls []) := by
    intro v4 v5 v6 v7 H locs ls hf hW hl
    refine Wh_rule hf (fun z : Int32 × Int32 => ∀ (H : Heap) (locs : List Loc) (ls : Array Slot), Wd D (faB oa aa sh) (feB tc oa aa sh ln) A s.heap μ H locs → lv_has ls 8 [(0, .ref (oa (3, 0))), (1, .ref (oa (13, j1))), (2, .ref (oa (11, cl2))), (3, .int v3), (4, .int v4), (5, .int v5), (6, .int z.1), (7, .int z.2)] → W p l e (rmq 2 44) s m args below meth c H locs 0 0 Q (F0 m 30 ls [])) (fun z o1 hf Kl1 Kr1 => ?_) _ _ _ hW hl
    obtain ⟨v6, v7⟩ := z
    intro H locs ls hW hl
    have hf : f_X4_sureIfHeard_L30 sh ln j1 cl2 v3 v4 v5 μ v6 v7 = some o1 := hf
    unfold f_X4_sureIfHeard_L30 at hf
    have hW : Wd D (faB oa aa sh) (feB tc oa aa sh ln) A s.heap μ H locs := hW
    have hl : lv_has ls 8 [(0, .ref (oa (3, 0))), (1, .ref (oa (13, j1))), (2, .ref (oa (11, cl2))), (3, .int v3), (4, .int v4), (5, .int v5), (6, .int v6), (7, .int v7)] := hl
    refine lv_iload hx hb dX4_sureIfHeard_30 (lv_at hl 7 rfl) ?_
    refine lv_aload_n hx hb dX4_sureIfHeard_32 rfl (lv_at hl 1 rfl) ?_
    refine gf_X4_52 C hW hj1 dX4_sureIfHeard_33 ?_
    refine lv_icmp_ge (tgt := 95) hx hb dX4_sureIfHeard_36 (by decide) (fun c1 => ?_) (fun c1 => ?_)
    · have hf := (if_pos c1).symm.trans hf
      obtain ⟨x9003, hf, hx9003⟩ := map_of hf
      have e9003 := (Kr1 _ hx9003.symm).symm
      subst e9003
      refine lv_aload_n hx hb dX4_sureIfHeard_95 rfl (lv_at hl 0 rfl) ?_
      refine lv_iload hx hb dX4_sureIfHeard_96 (lv_at hl 6 rfl) ?_
      obtain ⟨x98, h98, hf⟩ := bd_of hf
      refine r_callV (k := ((3, 0) : Ky)) C hW hl lk_X4_75 (c_X4_onlyOne h98) ⟨rfl, rfl⟩ ⟨Nat.le_of_ble_eq_true rfl, Nat.le_of_ble_eq_true rfl⟩ rfl rfl rfl (As := [.int v6]) (rest := []) rfl rfl (Nat.le_of_ble_eq_true rfl) dX4_sureIfHeard_98 ⟨Nat.zero_le _, Nat.zero_le _⟩ (fun H locs hW => ?_)
      show W p l e (rmq 2 44) s m args below meth c H locs 0 0 Q (F0 m 101 ls [.int x98])
      refine lv_iconst (v := -1) hx hb dX4_sureIfHeard_101 (by decide) ?_
      refine lv_icmp_eq (tgt := 109) hx hb dX4_sureIfHeard_102 (by decide) (fun c2 => ?_) (fun c2 => ?_)
      · have hf := (if_pos c2).symm.trans hf
        refine lv_iconst (v := 0) hx hb dX4_sureIfHeard_109 (by decide) ?_
        obtain rfl := Option.some.inj hf
        rw [hQ]
        exact r_zret C hr hk hW (Or.inl rfl) rfl rfl dX4_sureIfHeard_110
      · have hf := (if_neg c2).symm.trans hf
        refine lv_iconst (v := 1) hx hb dX4_sureIfHeard_105 (by decide) ?_
        refine lv_goto (tgt := 110) hx hb dX4_sureIfHeard_106 (by decide) ?_
        obtain rfl := Option.some.inj hf
        rw [hQ]
        exact r_zret C hr hk hW (Or.inr rfl) rfl rfl dX4_sureIfHeard_110
    · have hf := (if_neg c1).symm.trans hf
      refine lv_aload_n hx hb dX4_sureIfHeard_39 rfl (lv_at hl 2 rfl) ?_
      refine lv_iload hx hb dX4_sureIfHeard_40 (lv_at hl 7 rfl) ?_
      obtain ⟨x42, h42, hf⟩ := bd_of hf
      refine r_callV (k := ((11, cl2) : Ky)) C hW hl lk_X4_56 (c_X1_at hwf hc2 h42) ⟨rfl, rfl⟩ ⟨Nat.le_of_ble_eq_true rfl, Nat.le_of_ble_eq_true rfl⟩ rfl (faB_11 hc2) rfl (As := [.int v7]) (rest := []) rfl rfl (Nat.le_of_ble_eq_true rfl) dX4_sureIfHeard_42 ⟨Nat.zero_le _, Nat.zero_le _⟩ (fun H locs hW => ?_)
      show W p l e (rmq 2 44) s m args below meth c H locs 0 0 Q (F0 m 45 ls [.int x42])
      refine lv_iconst (v := 1) hx hb dX4_sureIfHeard_45 (by decide) ?_
      refine lv_icmp_ne (tgt := 89) hx hb dX4_sureIfHeard_46 (by decide) (fun c4 => ?_) (fun c4 => ?_)
      · have hf := (if_neg c4).symm.trans hf
        refine lv_iinc (v := (v7 + (1 : Int32))) (lv' := [(7, .int (v7 + (1 : Int32))), (0, .ref (oa (3, 0))), (1, .ref (oa (13, j1))), (2, .ref (oa (11, cl2))), (3, .int v3), (4, .int v4), (5, .int v5), (6, .int v6)]) hx hb dX4_sureIfHeard_89 hl (k := 7) rfl rfl (by decide) rfl (fun ls hl => ?_)
        refine lv_goto (tgt := 30) hx hb dX4_sureIfHeard_92 (by decide) ?_
        obtain rfl := Option.some.inj hf
        exact Kl1 _ rfl _ _ _ hW (lv_sub hl [1, 2, 3, 4, 5, 6, 7, 0] rfl)
      · have hf := (if_pos c4).symm.trans hf
        refine lv_aload_n hx hb dX4_sureIfHeard_49 rfl (lv_at hl 0 rfl) ?_
        refine gf_X4_28 C hW dX4_sureIfHeard_50 ?_
        refine lv_iload hx hb dX4_sureIfHeard_53 (lv_at hl 7 rfl) ?_
        obtain ⟨x55, h55, hf⟩ := bd_of hf
        refine r_callV (k := ((11, 4) : Ky)) C hW hl lk_X4_56 (c_X1_at hwf rfl h55) ⟨rfl, rfl⟩ ⟨Nat.le_of_ble_eq_true rfl, Nat.le_of_ble_eq_true rfl⟩ rfl (faB_11 rfl) rfl (As := [.int v7]) (rest := []) rfl rfl (Nat.le_of_ble_eq_true rfl) dX4_sureIfHeard_55 ⟨Nat.zero_le _, Nat.zero_le _⟩ (fun H locs hW => ?_)
        show W p l e (rmq 2 44) s m args below meth c H locs 0 0 Q (F0 m 58 ls [.int x55])
        refine lv_iload hx hb dX4_sureIfHeard_58 (lv_at hl 5 rfl) ?_
        refine lv_icmp_ne (tgt := 89) hx hb dX4_sureIfHeard_60 (by decide) (fun c5 => ?_) (fun c5 => ?_)
        · have hf := (if_neg c5).symm.trans hf
          refine lv_iinc (v := (v7 + (1 : Int32))) (lv' := [(7, .int (v7 + (1 : Int32))), (0, .ref (oa (3, 0))), (1, .ref (oa (13, j1))), (2, .ref (oa (11, cl2))), (3, .int v3), (4, .int v4), (5, .int v5), (6, .int v6)]) hx hb dX4_sureIfHeard_89 hl (k := 7) rfl rfl (by decide) rfl (fun ls hl => ?_)
          refine lv_goto (tgt := 30) hx hb dX4_sureIfHeard_92 (by decide) ?_
          obtain rfl := Option.some.inj hf
          exact Kl1 _ rfl _ _ _ hW (lv_sub hl [1, 2, 3, 4, 5, 6, 7, 0] rfl)
        · have hf := (if_pos c5).symm.trans hf
          refine lv_aload_n hx hb dX4_sureIfHeard_63 rfl (lv_at hl 1 rfl) ?_
          refine lv_iload_n hx hb dX4_sureIfHeard_64 rfl (lv_at hl 3 rfl) ?_
          refine lv_iload hx hb dX4_sureIfHeard_65 (lv_at hl 7 rfl) ?_
          obtain ⟨x67, h67, hf⟩ := bd_of hf
          refine r_callV (k := ((13, j1) : Ky)) C hW hl lk_X4_48 (c_X6_group hwf hj1 h67) ⟨rfl, rfl⟩ ⟨Nat.le_of_ble_eq_true rfl, Nat.le_of_ble_eq_true rfl⟩ rfl (faB_13 hj1) rfl (As := [.int v3, .int v7]) (rest := []) rfl rfl (Nat.le_of_ble_eq_true rfl) dX4_sureIfHeard_67 ⟨Nat.zero_le _, Nat.zero_le _⟩ (fun H locs hW => ?_)
          show W p l e (rmq 2 44) s m args below meth c H locs 0 0 Q (F0 m 70 ls [.int x67])
          refine lv_iload hx hb dX4_sureIfHeard_70 (lv_at hl 4 rfl) ?_
          refine lv_icmp_ne (tgt := 89) hx hb dX4_sureIfHeard_72 (by decide) (fun c6 => ?_) (fun c6 => ?_)
          · have hf := (if_neg c6).symm.trans hf
            refine lv_iinc (v := (v7 + (1 : Int32))) (lv' := [(7, .int (v7 + (1 : Int32))), (0, .ref (oa (3, 0))), (1, .ref (oa (13, j1))), (2, .ref (oa (11, cl2))), (3, .int v3), (4, .int v4), (5, .int v5), (6, .int v6)]) hx hb dX4_sureIfHeard_89 hl (k := 7) rfl rfl (by decide) rfl (fun ls hl => ?_)
            refine lv_goto (tgt := 30) hx hb dX4_sureIfHeard_92 (by decide) ?_
            obtain rfl := Option.some.inj hf
            exact Kl1 _ rfl _ _ _ hW (lv_sub hl [1, 2, 3, 4, 5, 6, 7, 0] rfl)
          · have hf := (if_pos c6).symm.trans hf
            refine lv_iload hx hb dX4_sureIfHeard_75 (lv_at hl 6 rfl) ?_
            refine lv_iconst (v := 1) hx hb dX4_sureIfHeard_77 (by decide) ?_
            refine lv_aload_n hx hb dX4_sureIfHeard_78 rfl (lv_at hl 1 rfl) ?_
            refine lv_iload hx hb dX4_sureIfHeard_79 (lv_at hl 7 rfl) ?_
            refine lv_iload_n hx hb dX4_sureIfHeard_81 rfl (lv_at hl 3 rfl) ?_
            obtain ⟨x82, h82, hf⟩ := bd_of hf
            refine r_callV (k := ((13, j1) : Ky)) C hW hl lk_X4_60 (c_X6_figure hwf hj1 h82) ⟨rfl, rfl⟩ ⟨Nat.le_of_ble_eq_true rfl, Nat.le_of_ble_eq_true rfl⟩ rfl (faB_13 hj1) rfl (As := [.int v7, .int v3]) (rest := [.int (1 : Int32), .int v6]) rfl rfl (Nat.le_of_ble_eq_true rfl) dX4_sureIfHeard_82 ⟨Nat.zero_le _, Nat.zero_le _⟩ (fun H locs hW => ?_)
            show W p l e (rmq 2 44) s m args below meth c H locs 0 0 Q (F0 m 85 ls [.int x82, .int (1 : Int32), .int v6])
            refine lv_ishl hx hb dX4_sureIfHeard_85 ?_
            refine lv_ior hx hb dX4_sureIfHeard_86 ?_
            refine lv_istore (lv' := [(6, .int (v6 ||| ((1 : Int32) <<< (x82 &&& 31)))), (0, .ref (oa (3, 0))), (1, .ref (oa (13, j1))), (2, .ref (oa (11, cl2))), (3, .int v3), (4, .int v4), (5, .int v5), (7, .int v7)]) hx hb dX4_sureIfHeard_87 hl (by decide) rfl (fun ls hl => ?_)
            refine lv_iinc (v := (v7 + (1 : Int32))) (lv' := [(7, .int (v7 + (1 : Int32))), (6, .int (v6 ||| ((1 : Int32) <<< (x82 &&& 31)))), (0, .ref (oa (3, 0))), (1, .ref (oa (13, j1))), (2, .ref (oa (11, cl2))), (3, .int v3), (4, .int v4), (5, .int v5)]) hx hb dX4_sureIfHeard_89 hl (k := 7) rfl rfl (by decide) rfl (fun ls hl => ?_)
            refine lv_goto (tgt := 30) hx hb dX4_sureIfHeard_92 (by decide) ?_
            obtain rfl := Option.some.inj hf
            exact Kl1 _ rfl _ _ _ hW (lv_sub hl [2, 3, 4, 5, 6, 7, 1, 0] rfl)
  exact L30 x6 x19 (0 : Int32) (0 : Int32) _ _ _ hf hW (lv_sub hl [4, 5, 6, 7, 3, 2, 1, 0] rfl)
set_option maxHeartbeats 4000000 in
set_option maxRecDepth 100000 in
theorem c_X4_heed {l : Launch} {D : va_G} {tc : Nat → ClassId} {ro : Ro} {oa : Ky → Nat} {aa : Nat → Nat} {sh : Sh} {ln : Nat → Nat} {j1 cl2 : Nat} {μ : Mm} {res : Int32 × Mm} (hwf : WfS sh) (hj1 : sh 2 j1 = 1) (hc2 : cex sh cl2 = true) (hf : f_X4_heed sh ln j1 cl2 μ = some res) : Ct l D tc ro (faB oa aa sh) (feB tc oa aa sh ln) yX4_heed cX4_heed 6 (some .boolean) (rmq 1 22) [.ref (oa (3, 0)), .ref (oa (13, j1)), .ref (oa (11, cl2))] μ (some (.int res.1)) res.2 := by
  refine Ct.of (by decide) (Nat.le_of_ble_eq_true rfl) (fun p e s m args below meth c A C hr hk hW ls hl => ?_)
  have hx := C.1.1
  have hb := C.1.2.1
  obtain ⟨Q, hQ⟩ : ∃ Q, Q = MQ below (Ctq D (faB oa aa sh) (feB tc oa aa sh ln) (some (.int res.1)) res.2 A) args s 0 0 A := ⟨_, rfl⟩
  rw [← hQ]
  have hl : lv_has ls 6 [(0, .ref (oa (3, 0))), (1, .ref (oa (13, j1))), (2, .ref (oa (11, cl2)))] := hl
  unfold f_X4_heed at hf
  refine lv_aload_n hx hb dX4_heed_0 rfl (lv_at hl 0 rfl) ?_
  refine gf_X4_28 C hW dX4_heed_1 ?_
  refine lv_aload_n hx hb dX4_heed_4 rfl (lv_at hl 1 rfl) ?_
  refine gf_X4_81 C hW hj1 dX4_heed_5 ?_
  obtain ⟨x8, h8, hf⟩ := bd_of hf
  refine r_callV (k := ((11, 4) : Ky)) C hW hl lk_X4_56 (c_X1_at hwf rfl h8) ⟨rfl, rfl⟩ ⟨Nat.le_of_ble_eq_true rfl, Nat.le_of_ble_eq_true rfl⟩ rfl (faB_11 rfl) rfl (As := [.int (μ (13, j1) 3)]) (rest := []) rfl rfl (Nat.le_of_ble_eq_true rfl) dX4_heed_8 ⟨Nat.zero_le _, Nat.zero_le _⟩ (fun H locs hW => ?_)
  show W p l e (rmq 1 22) s m args below meth c H locs 0 0 Q (F0 m 11 ls [.int x8])
  refine lv_istore_n (lv' := [(3, .int x8), (0, .ref (oa (3, 0))), (1, .ref (oa (13, j1))), (2, .ref (oa (11, cl2)))]) hx hb dX4_heed_11 rfl hl (by decide) rfl (fun ls hl => ?_)
  refine lv_iconst (v := 0) hx hb dX4_heed_12 (by decide) ?_
  refine lv_istore (lv' := [(4, .int (0 : Int32)), (3, .int x8), (0, .ref (oa (3, 0))), (1, .ref (oa (13, j1))), (2, .ref (oa (11, cl2)))]) hx hb dX4_heed_13 hl (by decide) rfl (fun ls hl => ?_)
  refine lv_iconst (v := 0) hx hb dX4_heed_15 (by decide) ?_
  refine lv_istore (lv' := [(5, .int (0 : Int32)), (4, .int (0 : Int32)), (3, .int x8), (0, .ref (oa (3, 0))), (1, .ref (oa (13, j1))), (2, .ref (oa (11, cl2)))]) hx hb dX4_heed_16 hl (by decide) rfl (fun ls hl => ?_)
  have L18 : ∀ (μ : Mm) (v3 v4 v5 : Int32) (H : Heap) (locs : List Loc) (ls : Array Slot), Wh (fun z : Mm × Int32 × Int32 => f_X4_heed_L18 sh ln j1 cl2 v3 z.1 z.2.1 z.2.2) (μ, v4, v5) = some res → Wd D (faB oa aa sh) (feB tc oa aa sh ln) A s.heap μ H locs → lv_has ls 6 [(0, .ref (oa (3, 0))), (1, .ref (oa (13, j1))), (2, .ref (oa (11, cl2))), (3, .int v3), (4, .int v4), (5, .int v5)] → W p l e (rmq 1 22) s m args below meth c H locs 0 0 Q (F0 m 18 ls []) := by
    intro μ v3 v4 v5 H locs ls hf hW hl
    refine Wh_rule hf (fun z : Mm × Int32 × Int32 => ∀ (H : Heap) (locs : List Loc) (ls : Array Slot), Wd D (faB oa aa sh) (feB tc oa aa sh ln) A s.heap z.1 H locs → lv_has ls 6 [(0, .ref (oa (3, 0))), (1, .ref (oa (13, j1))), (2, .ref (oa (11, cl2))), (3, .int v3), (4, .int z.2.1), (5, .int z.2.2)] → W p l e (rmq 1 22) s m args below meth c H locs 0 0 Q (F0 m 18 ls [])) (fun z o1 hf Kl1 Kr1 => ?_) _ _ _ hW hl
    obtain ⟨μ, v4, v5⟩ := z
    intro H locs ls hW hl
    have hf : f_X4_heed_L18 sh ln j1 cl2 v3 μ v4 v5 = some o1 := hf
    unfold f_X4_heed_L18 at hf
    have hW : Wd D (faB oa aa sh) (feB tc oa aa sh ln) A s.heap μ H locs := hW
    have hl : lv_has ls 6 [(0, .ref (oa (3, 0))), (1, .ref (oa (13, j1))), (2, .ref (oa (11, cl2))), (3, .int v3), (4, .int v4), (5, .int v5)] := hl
    refine lv_iload hx hb dX4_heed_18 (lv_at hl 5 rfl) ?_
    refine lv_aload_n hx hb dX4_heed_20 rfl (lv_at hl 1 rfl) ?_
    refine gf_X4_52 C hW hj1 dX4_heed_21 ?_
    refine lv_icmp_ge (tgt := 66) hx hb dX4_heed_24 (by decide) (fun c1 => ?_) (fun c1 => ?_)
    · have hf := (if_pos c1).symm.trans hf
      obtain ⟨x9003, hf, hx9003⟩ := map_of hf
      have e9003 := (Kr1 _ hx9003.symm).symm
      subst e9003
      refine lv_iload hx hb dX4_heed_66 (lv_at hl 4 rfl) ?_
      obtain ⟨hz2, hf⟩ := cb_of hf
      obtain rfl := Option.some.inj hf
      rw [hQ]
      exact r_zret C hr hk hW hz2 rfl rfl dX4_heed_68
    · have hf := (if_neg c1).symm.trans hf
      refine lv_aload_n hx hb dX4_heed_27 rfl (lv_at hl 2 rfl) ?_
      refine lv_iload hx hb dX4_heed_28 (lv_at hl 5 rfl) ?_
      obtain ⟨x30, h30, hf⟩ := bd_of hf
      refine r_callV (k := ((11, cl2) : Ky)) C hW hl lk_X4_56 (c_X1_at hwf hc2 h30) ⟨rfl, rfl⟩ ⟨Nat.le_of_ble_eq_true rfl, Nat.le_of_ble_eq_true rfl⟩ rfl (faB_11 hc2) rfl (As := [.int v5]) (rest := []) rfl rfl (Nat.le_of_ble_eq_true rfl) dX4_heed_30 ⟨Nat.zero_le _, Nat.zero_le _⟩ (fun H locs hW => ?_)
      show W p l e (rmq 1 22) s m args below meth c H locs 0 0 Q (F0 m 33 ls [.int x30])
      refine lv_iconst (v := 1) hx hb dX4_heed_33 (by decide) ?_
      refine lv_icmp_ne (tgt := 60) hx hb dX4_heed_34 (by decide) (fun c4 => ?_) (fun c4 => ?_)
      · have hf := (if_neg c4).symm.trans hf
        refine lv_iinc (v := (v5 + (1 : Int32))) (lv' := [(5, .int (v5 + (1 : Int32))), (0, .ref (oa (3, 0))), (1, .ref (oa (13, j1))), (2, .ref (oa (11, cl2))), (3, .int v3), (4, .int v4)]) hx hb dX4_heed_60 hl (k := 5) rfl rfl (by decide) rfl (fun ls hl => ?_)
        refine lv_goto (tgt := 18) hx hb dX4_heed_63 (by decide) ?_
        obtain rfl := Option.some.inj hf
        exact Kl1 _ rfl _ _ _ hW (lv_sub hl [1, 2, 3, 4, 5, 0] rfl)
      · have hf := (if_pos c4).symm.trans hf
        refine lv_aload_n hx hb dX4_heed_37 rfl (lv_at hl 0 rfl) ?_
        refine gf_X4_28 C hW dX4_heed_38 ?_
        refine lv_iload hx hb dX4_heed_41 (lv_at hl 5 rfl) ?_
        obtain ⟨x43, h43, hf⟩ := bd_of hf
        refine r_callV (k := ((11, 4) : Ky)) C hW hl lk_X4_56 (c_X1_at hwf rfl h43) ⟨rfl, rfl⟩ ⟨Nat.le_of_ble_eq_true rfl, Nat.le_of_ble_eq_true rfl⟩ rfl (faB_11 rfl) rfl (As := [.int v5]) (rest := []) rfl rfl (Nat.le_of_ble_eq_true rfl) dX4_heed_43 ⟨Nat.zero_le _, Nat.zero_le _⟩ (fun H locs hW => ?_)
        show W p l e (rmq 1 22) s m args below meth c H locs 0 0 Q (F0 m 46 ls [.int x43])
        refine lv_iload_n hx hb dX4_heed_46 rfl (lv_at hl 3 rfl) ?_
        refine lv_icmp_eq (tgt := 60) hx hb dX4_heed_47 (by decide) (fun c5 => ?_) (fun c5 => ?_)
        · have hf := (if_pos c5).symm.trans hf
          refine lv_iinc (v := (v5 + (1 : Int32))) (lv' := [(5, .int (v5 + (1 : Int32))), (0, .ref (oa (3, 0))), (1, .ref (oa (13, j1))), (2, .ref (oa (11, cl2))), (3, .int v3), (4, .int v4)]) hx hb dX4_heed_60 hl (k := 5) rfl rfl (by decide) rfl (fun ls hl => ?_)
          refine lv_goto (tgt := 18) hx hb dX4_heed_63 (by decide) ?_
          obtain rfl := Option.some.inj hf
          exact Kl1 _ rfl _ _ _ hW (lv_sub hl [1, 2, 3, 4, 5, 0] rfl)
        · have hf := (if_neg c5).symm.trans hf
          refine lv_aload_n hx hb dX4_heed_50 rfl (lv_at hl 2 rfl) ?_
          refine lv_iload hx hb dX4_heed_51 (lv_at hl 5 rfl) ?_
          refine lv_iconst (v := 0) hx hb dX4_heed_53 (by decide) ?_
          obtain ⟨x54, h54, hf⟩ := bd_of hf
          refine r_callV (k := ((11, cl2) : Ky)) C hW hl lk_X4_110 (c_X1_put hwf hc2 h54) ⟨rfl, rfl⟩ ⟨Nat.le_of_ble_eq_true rfl, Nat.le_of_ble_eq_true rfl⟩ rfl (faB_11 hc2) rfl (As := [.int v5, .int (0 : Int32)]) (rest := []) rfl rfl (Nat.le_of_ble_eq_true rfl) dX4_heed_54 ⟨Nat.zero_le _, Nat.zero_le _⟩ (fun H locs hW => ?_)
          show W p l e (rmq 1 22) s m args below meth c H locs 0 0 Q (F0 m 57 ls [])
          refine lv_iconst (v := 1) hx hb dX4_heed_57 (by decide) ?_
          refine lv_istore (lv' := [(4, .int (1 : Int32)), (0, .ref (oa (3, 0))), (1, .ref (oa (13, j1))), (2, .ref (oa (11, cl2))), (3, .int v3), (5, .int v5)]) hx hb dX4_heed_58 hl (by decide) rfl (fun ls hl => ?_)
          refine lv_iinc (v := (v5 + (1 : Int32))) (lv' := [(5, .int (v5 + (1 : Int32))), (4, .int (1 : Int32)), (0, .ref (oa (3, 0))), (1, .ref (oa (13, j1))), (2, .ref (oa (11, cl2))), (3, .int v3)]) hx hb dX4_heed_60 hl (k := 5) rfl rfl (by decide) rfl (fun ls hl => ?_)
          refine lv_goto (tgt := 18) hx hb dX4_heed_63 (by decide) ?_
          obtain rfl := Option.some.inj hf
          exact Kl1 _ rfl _ _ _ hW (lv_sub hl [2, 3, 4, 5, 1, 0] rfl)
  exact L18 μ x8 (0 : Int32) (0 : Int32) _ _ _ hf hW (lv_sub hl [3, 4, 5, 2, 1, 0] rfl)
set_option maxHeartbeats 4000000 in
set_option maxRecDepth 100000 in
theorem c_X4_daysUntilSure {l : Launch} {D : va_G} {tc : Nat → ClassId} {ro : Ro} {oa : Ky → Nat} {aa : Nat → Nat} {sh : Sh} {ln : Nat → Nat} {j1 : Nat} {μ : Mm} {v2 : Int32} {res : Int32 × Mm} (hwf : WfS sh) (hj1 : sh 2 j1 = 1) (hf : f_X4_daysUntilSure sh ln j1 μ v2 = some res) : Ct l D tc ro (faB oa aa sh) (feB tc oa aa sh ln) yX4_daysUntilSure cX4_daysUntilSure 5 (some .int) (rmq 5 117) [.ref (oa (3, 0)), .ref (oa (13, j1)), .int v2] μ (some (.int res.1)) res.2 := by
  refine Ct.of (by decide) (Nat.le_of_ble_eq_true rfl) (fun p e s m args below meth c A C hr hk hW ls hl => ?_)
  have hx := C.1.1
  have hb := C.1.2.1
  obtain ⟨Q, hQ⟩ : ∃ Q, Q = MQ below (Ctq D (faB oa aa sh) (feB tc oa aa sh ln) (some (.int res.1)) res.2 A) args s 0 0 A := ⟨_, rfl⟩
  rw [← hQ]
  have hl : lv_has ls 5 [(0, .ref (oa (3, 0))), (1, .ref (oa (13, j1))), (2, .int v2)] := hl
  unfold f_X4_daysUntilSure at hf
  refine lv_aload_n hx hb dX4_daysUntilSure_0 rfl (lv_at hl 0 rfl) ?_
  refine gf_X4_31 C hW dX4_daysUntilSure_1 ?_
  refine lv_aload_n hx hb dX4_daysUntilSure_4 rfl (lv_at hl 1 rfl) ?_
  refine gf_X4_84 C hW hj1 dX4_daysUntilSure_5 ?_
  refine lv_aload_n hx hb dX4_daysUntilSure_8 rfl (lv_at hl 1 rfl) ?_
  refine gf_X4_52 C hW hj1 dX4_daysUntilSure_9 ?_
  obtain ⟨x12, h12, hf⟩ := bd_of hf
  refine r_callV (k := ((11, 5) : Ky)) C hW hl lk_X4_120 (c_X1_become hwf rfl (cex_st hj1 (by decide)) h12) ⟨rfl, rfl⟩ ⟨Nat.le_of_ble_eq_true rfl, Nat.le_of_ble_eq_true rfl⟩ rfl (faB_11 rfl) rfl (As := [.ref (oa (11, 15 + 5 * j1 + 2)), .int (μ (13, j1) 2)]) (rest := []) rfl rfl (Nat.le_of_ble_eq_true rfl) dX4_daysUntilSure_12 ⟨Nat.zero_le _, Nat.zero_le _⟩ (fun H locs hW => ?_)
  show W p l e (rmq 5 117) s m args below meth c H locs 0 0 Q (F0 m 15 ls [])
  refine lv_iconst (v := 0) hx hb dX4_daysUntilSure_15 (by decide) ?_
  refine lv_istore_n (lv' := [(3, .int (0 : Int32)), (0, .ref (oa (3, 0))), (1, .ref (oa (13, j1))), (2, .int v2)]) hx hb dX4_daysUntilSure_16 rfl hl (by decide) rfl (fun ls hl => ?_)
  have L17 : ∀ (μ : Mm) (v3 : Int32) (H : Heap) (locs : List Loc) (ls : Array Slot), Wh (fun z : Mm × Int32 => f_X4_daysUntilSure_L17 sh ln j1 v2 z.1 z.2) (μ, v3) = some res → Wd D (faB oa aa sh) (feB tc oa aa sh ln) A s.heap μ H locs → lv_has ls 5 [(0, .ref (oa (3, 0))), (1, .ref (oa (13, j1))), (2, .int v2), (3, .int v3)] → W p l e (rmq 5 117) s m args below meth c H locs 0 0 Q (F0 m 17 ls []) := by
    intro μ v3 H locs ls hf hW hl
    refine Wh_rule hf (fun z : Mm × Int32 => ∀ (H : Heap) (locs : List Loc) (ls : Array Slot), Wd D (faB oa aa sh) (feB tc oa aa sh ln) A s.heap z.1 H locs → lv_has ls 5 [(0, .ref (oa (3, 0))), (1, .ref (oa (13, j1))), (2, .int v2), (3, .int z.2)] → W p l e (rmq 5 117) s m args below meth c H locs 0 0 Q (F0 m 17 ls [])) (fun z o1 hf Kl1 Kr1 => ?_) _ _ _ hW hl
    obtain ⟨μ, v3⟩ := z
    intro H locs ls hW hl
    have hf : f_X4_daysUntilSure_L17 sh ln j1 v2 μ v3 = some o1 := hf
    unfold f_X4_daysUntilSure_L17 at hf
    have hW : Wd D (faB oa aa sh) (feB tc oa aa sh ln) A s.heap μ H locs := hW
    have hl : lv_has ls 5 [(0, .ref (oa (3, 0))), (1, .ref (oa (13, j1))), (2, .int v2), (3, .int v3)] := hl
    have J59 : ∀ (μ : Mm) (v3 : Int32) (H : Heap) (locs : List Loc) (ls : Array Slot), f_X4_daysUntilSure_J59 sh ln j1 μ v2 v3 = some o1 → Wd D (faB oa aa sh) (feB tc oa aa sh ln) A s.heap μ H locs → lv_has ls 5 [(0, .ref (oa (3, 0))), (1, .ref (oa (13, j1))), (2, .int v2), (3, .int v3)] → W p l e (rmq 5 117) s m args below meth c H locs 0 0 Q (F0 m 59 ls []) := by
      intro μ v3 H locs ls hf hW hl
      unfold f_X4_daysUntilSure_J59 at hf
      refine lv_aload_n hx hb dX4_daysUntilSure_59 rfl (lv_at hl 0 rfl) ?_
      refine lv_aload_n hx hb dX4_daysUntilSure_60 rfl (lv_at hl 1 rfl) ?_
      refine lv_aload_n hx hb dX4_daysUntilSure_61 rfl (lv_at hl 0 rfl) ?_
      refine gf_X4_31 C hW dX4_daysUntilSure_62 ?_
      obtain ⟨x65, h65, hf⟩ := bd_of hf
      refine r_callV (k := ((3, 0) : Ky)) C hW hl lk_X4_128 (c_X4_sayWhoIsSure hwf hj1 rfl h65) ⟨rfl, rfl⟩ ⟨Nat.le_of_ble_eq_true rfl, Nat.le_of_ble_eq_true rfl⟩ rfl rfl rfl (As := [.ref (oa (13, j1)), .ref (oa (11, 5))]) (rest := []) rfl rfl (Nat.le_of_ble_eq_true rfl) dX4_daysUntilSure_65 ⟨Nat.zero_le _, Nat.zero_le _⟩ (fun H locs hW => ?_)
      show W p l e (rmq 5 117) s m args below meth c H locs 0 0 Q (F0 m 68 ls [])
      refine lv_aload_n hx hb dX4_daysUntilSure_68 rfl (lv_at hl 0 rfl) ?_
      refine lv_aload_n hx hb dX4_daysUntilSure_69 rfl (lv_at hl 1 rfl) ?_
      refine lv_aload_n hx hb dX4_daysUntilSure_70 rfl (lv_at hl 0 rfl) ?_
      refine gf_X4_31 C hW dX4_daysUntilSure_71 ?_
      obtain ⟨x74, h74, hf⟩ := bd_of hf
      refine r_callV (k := ((3, 0) : Ky)) C hW hl lk_X4_132 (c_X4_heed hwf hj1 rfl h74) ⟨rfl, rfl⟩ ⟨Nat.le_of_ble_eq_true rfl, Nat.le_of_ble_eq_true rfl⟩ rfl rfl rfl (As := [.ref (oa (13, j1)), .ref (oa (11, 5))]) (rest := []) rfl rfl (Nat.le_of_ble_eq_true rfl) dX4_daysUntilSure_74 ⟨Nat.zero_le _, Nat.zero_le _⟩ (fun H locs hW => ?_)
      show W p l e (rmq 5 117) s m args below meth c H locs 0 0 Q (F0 m 77 ls [.int x74.1])
      refine lv_if_ne (tgt := 82) hx hb dX4_daysUntilSure_77 (by decide) (fun c1 => ?_) (fun c1 => ?_)
      · have hf := (if_neg c1).symm.trans hf
        refine lv_iinc (v := (v3 + (1 : Int32))) (lv' := [(3, .int (v3 + (1 : Int32))), (0, .ref (oa (3, 0))), (1, .ref (oa (13, j1))), (2, .int v2)]) hx hb dX4_daysUntilSure_82 hl (k := 3) rfl rfl (by decide) rfl (fun ls hl => ?_)
        refine lv_goto (tgt := 17) hx hb dX4_daysUntilSure_85 (by decide) ?_
        obtain rfl := Option.some.inj hf
        exact Kl1 _ rfl _ _ _ hW (lv_sub hl [1, 2, 3, 0] rfl)
      · have hf := (if_pos c1).symm.trans hf
        obtain ⟨x9002, hf, hx9002⟩ := map_of hf
        have e9002 := (Kr1 _ hx9002.symm).symm
        subst e9002
        refine lv_iconst (v := -1) hx hb dX4_daysUntilSure_80 (by decide) ?_
        obtain rfl := Option.some.inj hf
        rw [hQ]
        exact r_iret C hr hk hW rfl rfl dX4_daysUntilSure_81
    refine lv_iload_n hx hb dX4_daysUntilSure_17 rfl (lv_at hl 3 rfl) ?_
    refine lv_bipush (v := 40) hx hb dX4_daysUntilSure_18 (by decide) ?_
    refine lv_icmp_gt (tgt := 88) hx hb dX4_daysUntilSure_20 (by decide) (fun c3 => ?_) (fun c3 => ?_)
    · have hf := (if_pos c3).symm.trans hf
      obtain ⟨x9004, hf, hx9004⟩ := map_of hf
      have e9004 := (Kr1 _ hx9004.symm).symm
      subst e9004
      refine lv_iconst (v := -1) hx hb dX4_daysUntilSure_88 (by decide) ?_
      obtain rfl := Option.some.inj hf
      rw [hQ]
      exact r_iret C hr hk hW rfl rfl dX4_daysUntilSure_89
    · have hf := (if_neg c3).symm.trans hf
      refine lv_aload_n hx hb dX4_daysUntilSure_23 rfl (lv_at hl 0 rfl) ?_
      refine lv_aload_n hx hb dX4_daysUntilSure_24 rfl (lv_at hl 1 rfl) ?_
      refine lv_aload_n hx hb dX4_daysUntilSure_25 rfl (lv_at hl 0 rfl) ?_
      refine gf_X4_31 C hW dX4_daysUntilSure_26 ?_
      obtain ⟨x29, h29, hf⟩ := bd_of hf
      refine r_callV (k := ((3, 0) : Ky)) C hW hl lk_X4_124 (c_X4_sureBits hwf hj1 rfl h29) ⟨rfl, rfl⟩ ⟨Nat.le_of_ble_eq_true rfl, Nat.le_of_ble_eq_true rfl⟩ rfl rfl rfl (As := [.ref (oa (13, j1)), .ref (oa (11, 5))]) (rest := []) rfl rfl (Nat.le_of_ble_eq_true rfl) dX4_daysUntilSure_29 ⟨Nat.zero_le _, Nat.zero_le _⟩ (fun H locs hW => ?_)
      show W p l e (rmq 5 117) s m args below meth c H locs 0 0 Q (F0 m 32 ls [.int x29])
      refine lv_istore (lv' := [(4, .int x29), (0, .ref (oa (3, 0))), (1, .ref (oa (13, j1))), (2, .int v2), (3, .int v3)]) hx hb dX4_daysUntilSure_32 hl (by decide) rfl (fun ls hl => ?_)
      refine lv_iload_n hx hb dX4_daysUntilSure_34 rfl (lv_at hl 3 rfl) ?_
      refine lv_iconst (v := -1) hx hb dX4_daysUntilSure_35 (by decide) ?_
      refine lv_icmp_ne (tgt := 47) hx hb dX4_daysUntilSure_36 (by decide) (fun c5 => ?_) (fun c5 => ?_)
      · have hf := (if_neg c5).symm.trans hf
        refine lv_iload hx hb dX4_daysUntilSure_47 (lv_at hl 0 rfl) ?_
        refine lv_iload_n hx hb dX4_daysUntilSure_49 rfl (lv_at hl 3 rfl) ?_
        refine lv_ishr hx hb dX4_daysUntilSure_50 ?_
        refine lv_iconst (v := 1) hx hb dX4_daysUntilSure_51 (by decide) ?_
        refine lv_iand hx hb dX4_daysUntilSure_52 ?_
        refine lv_iconst (v := 1) hx hb dX4_daysUntilSure_53 (by decide) ?_
        refine lv_icmp_ne (tgt := 59) hx hb dX4_daysUntilSure_54 (by decide) (fun c6 => ?_) (fun c6 => ?_)
        · have hf := (if_neg c6).symm.trans hf
          exact J59 μ v3 _ _ _ hf hW (lv_sub hl [1, 2, 3, 4] rfl)
        · have hf := (if_pos c6).symm.trans hf
          obtain ⟨x9007, hf, hx9007⟩ := map_of hf
          have e9007 := (Kr1 _ hx9007.symm).symm
          subst e9007
          refine lv_iload_n hx hb dX4_daysUntilSure_57 rfl (lv_at hl 4 rfl) ?_
          obtain rfl := Option.some.inj hf
          rw [hQ]
          exact r_iret C hr hk hW rfl rfl dX4_daysUntilSure_58
      · have hf := (if_pos c5).symm.trans hf
        refine lv_iload hx hb dX4_daysUntilSure_39 (lv_at hl 0 rfl) ?_
        refine lv_if_eq (tgt := 59) hx hb dX4_daysUntilSure_41 (by decide) (fun c8 => ?_) (fun c8 => ?_)
        · have hf := (if_pos c8).symm.trans hf
          exact J59 μ v3 _ _ _ hf hW (lv_sub hl [1, 2, 3, 4] rfl)
        · have hf := (if_neg c8).symm.trans hf
          obtain ⟨x9009, hf, hx9009⟩ := map_of hf
          have e9009 := (Kr1 _ hx9009.symm).symm
          subst e9009
          refine lv_goto (tgt := 57) hx hb dX4_daysUntilSure_44 (by decide) ?_
          refine lv_iload_n hx hb dX4_daysUntilSure_57 rfl (lv_at hl 4 rfl) ?_
          obtain rfl := Option.some.inj hf
          rw [hQ]
          exact r_iret C hr hk hW rfl rfl dX4_daysUntilSure_58
  exact L17 x12 (0 : Int32) _ _ _ hf hW (lv_sub hl [1, 2, 3, 0] rfl)
set_option maxHeartbeats 4000000 in
set_option maxRecDepth 100000 in
theorem c_X4_spilledBy {l : Launch} {D : va_G} {tc : Nat → ClassId} {ro : Ro} {oa : Ky → Nat} {aa : Nat → Nat} {sh : Sh} {ln : Nat → Nat} {j1 : Nat} {μ : Mm} {v2 : Int32} {res : Int32 × Mm} (hwf : WfS sh) (hj1 : sh 2 j1 = 1) (hf : f_X4_spilledBy sh ln j1 μ v2 = some res) : Ct l D tc ro (faB oa aa sh) (feB tc oa aa sh ln) yX4_spilledBy cX4_spilledBy 5 (some .int) (rmq 4 96) [.ref (oa (3, 0)), .ref (oa (13, j1)), .int v2] μ (some (.int res.1)) res.2 := by
  refine Ct.of (by decide) (Nat.le_of_ble_eq_true rfl) (fun p e s m args below meth c A C hr hk hW ls hl => ?_)
  have hx := C.1.1
  have hb := C.1.2.1
  obtain ⟨Q, hQ⟩ : ∃ Q, Q = MQ below (Ctq D (faB oa aa sh) (feB tc oa aa sh ln) (some (.int res.1)) res.2 A) args s 0 0 A := ⟨_, rfl⟩
  rw [← hQ]
  have hl : lv_has ls 5 [(0, .ref (oa (3, 0))), (1, .ref (oa (13, j1))), (2, .int v2)] := hl
  unfold f_X4_spilledBy at hf
  refine lv_aload_n hx hb dX4_spilledBy_0 rfl (lv_at hl 0 rfl) ?_
  refine lv_aload_n hx hb dX4_spilledBy_1 rfl (lv_at hl 1 rfl) ?_
  refine lv_iload_n hx hb dX4_spilledBy_2 rfl (lv_at hl 2 rfl) ?_
  obtain ⟨x3, h3, hf⟩ := bd_of hf
  refine r_callV (k := ((3, 0) : Ky)) C hW hl lk_X4_136 (c_X4_sayNotice hwf hj1 h3) ⟨rfl, rfl⟩ ⟨Nat.le_of_ble_eq_true rfl, Nat.le_of_ble_eq_true rfl⟩ rfl rfl rfl (As := [.ref (oa (13, j1)), .int v2]) (rest := []) rfl rfl (Nat.le_of_ble_eq_true rfl) dX4_spilledBy_3 ⟨Nat.zero_le _, Nat.zero_le _⟩ (fun H locs hW => ?_)
  show W p l e (rmq 4 96) s m args below meth c H locs 0 0 Q (F0 m 6 ls [])
  refine lv_iconst (v := 0) hx hb dX4_spilledBy_6 (by decide) ?_
  refine lv_istore_n (lv' := [(3, .int (0 : Int32)), (0, .ref (oa (3, 0))), (1, .ref (oa (13, j1))), (2, .int v2)]) hx hb dX4_spilledBy_7 rfl hl (by decide) rfl (fun ls hl => ?_)
  refine lv_iconst (v := 0) hx hb dX4_spilledBy_8 (by decide) ?_
  refine lv_istore (lv' := [(4, .int (0 : Int32)), (3, .int (0 : Int32)), (0, .ref (oa (3, 0))), (1, .ref (oa (13, j1))), (2, .int v2)]) hx hb dX4_spilledBy_9 hl (by decide) rfl (fun ls hl => ?_)
  have L11 : ∀ (μ : Mm) (v3 v4 : Int32) (H : Heap) (locs : List Loc) (ls : Array Slot), Wh (fun z : Int32 × Int32 => f_X4_spilledBy_L11 sh ln j1 μ z.1 z.2) (v3, v4) = some res → Wd D (faB oa aa sh) (feB tc oa aa sh ln) A s.heap μ H locs → lv_has ls 5 [(0, .ref (oa (3, 0))), (1, .ref (oa (13, j1))), (3, .int v3), (4, .int v4)] → W p l e (rmq 4 96) s m args below meth c H locs 0 0 Q (F0 m 11 ls []) := by
    intro μ v3 v4 H locs ls hf hW hl
    refine Wh_rule hf (fun z : Int32 × Int32 => ∀ (H : Heap) (locs : List Loc) (ls : Array Slot), Wd D (faB oa aa sh) (feB tc oa aa sh ln) A s.heap μ H locs → lv_has ls 5 [(0, .ref (oa (3, 0))), (1, .ref (oa (13, j1))), (3, .int z.1), (4, .int z.2)] → W p l e (rmq 4 96) s m args below meth c H locs 0 0 Q (F0 m 11 ls [])) (fun z o1 hf Kl1 Kr1 => ?_) _ _ _ hW hl
    obtain ⟨v3, v4⟩ := z
    intro H locs ls hW hl
    have hf : f_X4_spilledBy_L11 sh ln j1 μ v3 v4 = some o1 := hf
    unfold f_X4_spilledBy_L11 at hf
    have hW : Wd D (faB oa aa sh) (feB tc oa aa sh ln) A s.heap μ H locs := hW
    have hl : lv_has ls 5 [(0, .ref (oa (3, 0))), (1, .ref (oa (13, j1))), (3, .int v3), (4, .int v4)] := hl
    refine lv_iload hx hb dX4_spilledBy_11 (lv_at hl 3 rfl) ?_
    refine lv_aload_n hx hb dX4_spilledBy_13 rfl (lv_at hl 1 rfl) ?_
    refine gf_X4_78 C hW hj1 dX4_spilledBy_14 ?_
    refine lv_icmp_ge (tgt := 65) hx hb dX4_spilledBy_17 (by decide) (fun c1 => ?_) (fun c1 => ?_)
    · have hf := (if_pos c1).symm.trans hf
      obtain ⟨x9002, hf, hx9002⟩ := map_of hf
      have e9002 := (Kr1 _ hx9002.symm).symm
      subst e9002
      refine lv_iload_n hx hb dX4_spilledBy_65 rfl (lv_at hl 2 rfl) ?_
      obtain rfl := Option.some.inj hf
      rw [hQ]
      exact r_iret C hr hk hW rfl rfl dX4_spilledBy_66
    · have hf := (if_neg c1).symm.trans hf
      refine lv_aload_n hx hb dX4_spilledBy_20 rfl (lv_at hl 0 rfl) ?_
      refine lv_aload_n hx hb dX4_spilledBy_21 rfl (lv_at hl 1 rfl) ?_
      refine lv_aload_n hx hb dX4_spilledBy_22 rfl (lv_at hl 1 rfl) ?_
      refine gf_X4_84 C hW hj1 dX4_spilledBy_23 ?_
      refine lv_iload hx hb dX4_spilledBy_26 (lv_at hl 3 rfl) ?_
      refine lv_aload_n hx hb dX4_spilledBy_28 rfl (lv_at hl 1 rfl) ?_
      refine gf_X4_81 C hW hj1 dX4_spilledBy_29 ?_
      obtain ⟨x32, h32, hf⟩ := bd_of hf
      refine r_callV (k := ((3, 0) : Ky)) C hW hl lk_X4_140 (c_X4_isSure hwf hj1 (cex_st hj1 (by decide)) h32) ⟨rfl, rfl⟩ ⟨Nat.le_of_ble_eq_true rfl, Nat.le_of_ble_eq_true rfl⟩ rfl rfl rfl (As := [.ref (oa (13, j1)), .ref (oa (11, 15 + 5 * j1 + 2)), .int v4, .int (μ (13, j1) 3)]) (rest := []) rfl rfl (Nat.le_of_ble_eq_true rfl) dX4_spilledBy_32 ⟨Nat.zero_le _, Nat.zero_le _⟩ (fun H locs hW => ?_)
      show W p l e (rmq 4 96) s m args below meth c H locs 0 0 Q (F0 m 35 ls [.int x32])
      refine lv_if_ne (tgt := 59) hx hb dX4_spilledBy_35 (by decide) (fun c3 => ?_) (fun c3 => ?_)
      · have hf := (if_neg c3).symm.trans hf
        refine lv_iinc (v := (v4 + (1 : Int32))) (lv' := [(4, .int (v4 + (1 : Int32))), (0, .ref (oa (3, 0))), (1, .ref (oa (13, j1))), (3, .int v3)]) hx hb dX4_spilledBy_59 hl (k := 3) rfl rfl (by decide) rfl (fun ls hl => ?_)
        refine lv_goto (tgt := 11) hx hb dX4_spilledBy_62 (by decide) ?_
        obtain rfl := Option.some.inj hf
        exact Kl1 _ rfl _ _ _ hW (lv_sub hl [1, 2, 3, 0] rfl)
      · have hf := (if_pos c3).symm.trans hf
        refine lv_aload_n hx hb dX4_spilledBy_38 rfl (lv_at hl 0 rfl) ?_
        refine lv_aload_n hx hb dX4_spilledBy_39 rfl (lv_at hl 1 rfl) ?_
        refine lv_aload_n hx hb dX4_spilledBy_40 rfl (lv_at hl 1 rfl) ?_
        refine gf_X4_84 C hW hj1 dX4_spilledBy_41 ?_
        refine lv_iload hx hb dX4_spilledBy_44 (lv_at hl 3 rfl) ?_
        obtain ⟨x46, h46, hf⟩ := bd_of hf
        refine r_callV (k := ((3, 0) : Ky)) C hW hl lk_X4_144 (c_X4_sureIfHeard hwf hj1 (cex_st hj1 (by decide)) h46) ⟨rfl, rfl⟩ ⟨Nat.le_of_ble_eq_true rfl, Nat.le_of_ble_eq_true rfl⟩ rfl rfl rfl (As := [.ref (oa (13, j1)), .ref (oa (11, 15 + 5 * j1 + 2)), .int v4]) (rest := []) rfl rfl (Nat.le_of_ble_eq_true rfl) dX4_spilledBy_46 ⟨Nat.zero_le _, Nat.zero_le _⟩ (fun H locs hW => ?_)
        show W p l e (rmq 4 96) s m args below meth c H locs 0 0 Q (F0 m 49 ls [.int x46])
        refine lv_if_eq (tgt := 59) hx hb dX4_spilledBy_49 (by decide) (fun c4 => ?_) (fun c4 => ?_)
        · have hf := (if_pos c4).symm.trans hf
          refine lv_iinc (v := (v4 + (1 : Int32))) (lv' := [(4, .int (v4 + (1 : Int32))), (0, .ref (oa (3, 0))), (1, .ref (oa (13, j1))), (3, .int v3)]) hx hb dX4_spilledBy_59 hl (k := 3) rfl rfl (by decide) rfl (fun ls hl => ?_)
          refine lv_goto (tgt := 11) hx hb dX4_spilledBy_62 (by decide) ?_
          obtain rfl := Option.some.inj hf
          exact Kl1 _ rfl _ _ _ hW (lv_sub hl [1, 2, 3, 0] rfl)
        · have hf := (if_neg c4).symm.trans hf
          refine lv_iload_n hx hb dX4_spilledBy_52 rfl (lv_at hl 2 rfl) ?_
          refine lv_iconst (v := 1) hx hb dX4_spilledBy_53 (by decide) ?_
          refine lv_iload hx hb dX4_spilledBy_54 (lv_at hl 3 rfl) ?_
          refine lv_ishl hx hb dX4_spilledBy_56 ?_
          refine lv_ior hx hb dX4_spilledBy_57 ?_
          refine lv_istore_n (lv' := [(3, .int (v3 ||| ((1 : Int32) <<< (v4 &&& 31)))), (0, .ref (oa (3, 0))), (1, .ref (oa (13, j1))), (4, .int v4)]) hx hb dX4_spilledBy_58 rfl hl (by decide) rfl (fun ls hl => ?_)
          refine lv_iinc (v := (v4 + (1 : Int32))) (lv' := [(4, .int (v4 + (1 : Int32))), (3, .int (v3 ||| ((1 : Int32) <<< (v4 &&& 31)))), (0, .ref (oa (3, 0))), (1, .ref (oa (13, j1)))]) hx hb dX4_spilledBy_59 hl (k := 3) rfl rfl (by decide) rfl (fun ls hl => ?_)
          refine lv_goto (tgt := 11) hx hb dX4_spilledBy_62 (by decide) ?_
          obtain rfl := Option.some.inj hf
          exact Kl1 _ rfl _ _ _ hW (lv_sub hl [2, 3, 1, 0] rfl)
  exact L11 x3 (0 : Int32) (0 : Int32) _ _ _ hf hW (lv_sub hl [2, 3, 1, 0] rfl)
set_option maxHeartbeats 4000000 in
set_option maxRecDepth 100000 in
theorem c_X4_firstLike {l : Launch} {D : va_G} {tc : Nat → ClassId} {ro : Ro} {oa : Ky → Nat} {aa : Nat → Nat} {sh : Sh} {ln : Nat → Nat} {μ : Mm} {v1 : Int32} {res : Int32} (hwf : WfS sh) (hf : f_X4_firstLike sh ln μ v1 = some res) : Ct l D tc ro (faB oa aa sh) (feB tc oa aa sh ln) yX4_firstLike cX4_firstLike 3 (some .int) (rmq 1 21) [.ref (oa (3, 0)), .int v1] μ (some (.int res)) μ := by
  refine Ct.of (by decide) (Nat.le_of_ble_eq_true rfl) (fun p e s m args below meth c A C hr hk hW ls hl => ?_)
  have hx := C.1.1
  have hb := C.1.2.1
  obtain ⟨Q, hQ⟩ : ∃ Q, Q = MQ below (Ctq D (faB oa aa sh) (feB tc oa aa sh ln) (some (.int res)) μ A) args s 0 0 A := ⟨_, rfl⟩
  rw [← hQ]
  have hl : lv_has ls 3 [(0, .ref (oa (3, 0))), (1, .int v1)] := hl
  unfold f_X4_firstLike at hf
  refine lv_iconst (v := 0) hx hb dX4_firstLike_0 (by decide) ?_
  refine lv_istore_n (lv' := [(2, .int (0 : Int32)), (0, .ref (oa (3, 0))), (1, .int v1)]) hx hb dX4_firstLike_1 rfl hl (by decide) rfl (fun ls hl => ?_)
  have L2 : ∀ (v2 : Int32) (H : Heap) (locs : List Loc) (ls : Array Slot), Wh (fun z : Int32 => f_X4_firstLike_L2 sh ln v1 μ z) (v2) = some res → Wd D (faB oa aa sh) (feB tc oa aa sh ln) A s.heap μ H locs → lv_has ls 3 [(0, .ref (oa (3, 0))), (1, .int v1), (2, .int v2)] → W p l e (rmq 1 21) s m args below meth c H locs 0 0 Q (F0 m 2 ls []) := by
    intro v2 H locs ls hf hW hl
    refine Wh_rule hf (fun z : Int32 => ∀ (H : Heap) (locs : List Loc) (ls : Array Slot), Wd D (faB oa aa sh) (feB tc oa aa sh ln) A s.heap μ H locs → lv_has ls 3 [(0, .ref (oa (3, 0))), (1, .int v1), (2, .int z)] → W p l e (rmq 1 21) s m args below meth c H locs 0 0 Q (F0 m 2 ls [])) (fun z o1 hf Kl1 Kr1 => ?_) _ _ _ hW hl
    obtain ⟨v2, ez⟩ : ∃ q, q = z := ⟨_, rfl⟩
    subst ez
    intro H locs ls hW hl
    have hf : f_X4_firstLike_L2 sh ln v1 μ v2 = some o1 := hf
    unfold f_X4_firstLike_L2 at hf
    have hW : Wd D (faB oa aa sh) (feB tc oa aa sh ln) A s.heap μ H locs := hW
    have hl : lv_has ls 3 [(0, .ref (oa (3, 0))), (1, .int v1), (2, .int v2)] := hl
    refine lv_iload_n hx hb dX4_firstLike_2 rfl (lv_at hl 2 rfl) ?_
    refine lv_iload_n hx hb dX4_firstLike_3 rfl (lv_at hl 1 rfl) ?_
    refine lv_icmp_ge (tgt := 34) hx hb dX4_firstLike_4 (by decide) (fun c1 => ?_) (fun c1 => ?_)
    · have hf := (if_pos c1).symm.trans hf
      obtain ⟨x9002, hf, hx9002⟩ := map_of hf
      have e9002 := (Kr1 _ hx9002.symm).symm
      subst e9002
      refine lv_iload_n hx hb dX4_firstLike_34 rfl (lv_at hl 1 rfl) ?_
      obtain rfl := Option.some.inj hf
      rw [hQ]
      exact r_iret C hr hk hW rfl rfl dX4_firstLike_35
    · have hf := (if_neg c1).symm.trans hf
      refine lv_aload_n hx hb dX4_firstLike_7 rfl (lv_at hl 0 rfl) ?_
      refine gf_X4_34 C hW dX4_firstLike_8 ?_
      refine lv_iload_n hx hb dX4_firstLike_11 rfl (lv_at hl 2 rfl) ?_
      obtain ⟨x12, h12, hf⟩ := bd_of hf
      refine r_callV (k := ((11, 6) : Ky)) C hW hl lk_X4_56 (c_X1_at hwf rfl h12) ⟨rfl, rfl⟩ ⟨Nat.le_of_ble_eq_true rfl, Nat.le_of_ble_eq_true rfl⟩ rfl (faB_11 rfl) rfl (As := [.int v2]) (rest := []) rfl rfl (Nat.le_of_ble_eq_true rfl) dX4_firstLike_12 ⟨Nat.zero_le _, Nat.zero_le _⟩ (fun H locs hW => ?_)
      show W p l e (rmq 1 21) s m args below meth c H locs 0 0 Q (F0 m 15 ls [.int x12])
      refine lv_aload_n hx hb dX4_firstLike_15 rfl (lv_at hl 0 rfl) ?_
      refine gf_X4_34 C hW dX4_firstLike_16 ?_
      refine lv_iload_n hx hb dX4_firstLike_19 rfl (lv_at hl 1 rfl) ?_
      obtain ⟨x20, h20, hf⟩ := bd_of hf
      refine r_callV (k := ((11, 6) : Ky)) C hW hl lk_X4_56 (c_X1_at hwf rfl h20) ⟨rfl, rfl⟩ ⟨Nat.le_of_ble_eq_true rfl, Nat.le_of_ble_eq_true rfl⟩ rfl (faB_11 rfl) rfl (As := [.int v1]) (rest := [.int x12]) rfl rfl (Nat.le_of_ble_eq_true rfl) dX4_firstLike_20 ⟨Nat.zero_le _, Nat.zero_le _⟩ (fun H locs hW => ?_)
      show W p l e (rmq 1 21) s m args below meth c H locs 0 0 Q (F0 m 23 ls [.int x20, .int x12])
      refine lv_icmp_ne (tgt := 28) hx hb dX4_firstLike_23 (by decide) (fun c3 => ?_) (fun c3 => ?_)
      · have hf := (if_neg c3).symm.trans hf
        refine lv_iinc (v := (v2 + (1 : Int32))) (lv' := [(2, .int (v2 + (1 : Int32))), (0, .ref (oa (3, 0))), (1, .int v1)]) hx hb dX4_firstLike_28 hl (k := 2) rfl rfl (by decide) rfl (fun ls hl => ?_)
        refine lv_goto (tgt := 2) hx hb dX4_firstLike_31 (by decide) ?_
        obtain rfl := Option.some.inj hf
        exact Kl1 _ rfl _ _ _ hW (lv_sub hl [1, 2, 0] rfl)
      · have hf := (if_pos c3).symm.trans hf
        obtain ⟨x9004, hf, hx9004⟩ := map_of hf
        have e9004 := (Kr1 _ hx9004.symm).symm
        subst e9004
        refine lv_iload_n hx hb dX4_firstLike_26 rfl (lv_at hl 2 rfl) ?_
        obtain rfl := Option.some.inj hf
        rw [hQ]
        exact r_iret C hr hk hW rfl rfl dX4_firstLike_27
  exact L2 (0 : Int32) _ _ _ hf hW (lv_sub hl [1, 2, 0] rfl)
set_option maxHeartbeats 4000000 in
set_option maxRecDepth 100000 in
theorem c_X4_meet {l : Launch} {D : va_G} {tc : Nat → ClassId} {ro : Ro} {oa : Ky → Nat} {aa : Nat → Nat} {sh : Sh} {ln : Nat → Nat} {j1 : Nat} {μ : Mm} {v2 v3 : Int32} {res : Mm} (hwf : WfS sh) (hj1 : sh 2 j1 = 1) (hf : f_X4_meet sh ln j1 μ v2 v3 = some res) : Ct l D tc ro (faB oa aa sh) (feB tc oa aa sh ln) yX4_meet cX4_meet 6 none (rmq 4 93) [.ref (oa (3, 0)), .ref (oa (13, j1)), .int v2, .int v3] μ none res := by
  refine Ct.of (by decide) (Nat.le_of_ble_eq_true rfl) (fun p e s m args below meth c A C hr hk hW ls hl => ?_)
  have hx := C.1.1
  have hb := C.1.2.1
  obtain ⟨Q, hQ⟩ : ∃ Q, Q = MQ below (Ctq D (faB oa aa sh) (feB tc oa aa sh ln) none res A) args s 0 0 A := ⟨_, rfl⟩
  rw [← hQ]
  have hl : lv_has ls 6 [(0, .ref (oa (3, 0))), (1, .ref (oa (13, j1))), (2, .int v2), (3, .int v3)] := hl
  unfold f_X4_meet at hf
  have J49 : ∀ (μ : Mm) (s0 s1 : Int32) (H : Heap) (locs : List Loc) (ls : Array Slot), f_X4_meet_J49 sh ln j1 μ v2 v3 s0 s1 = some res → Wd D (faB oa aa sh) (feB tc oa aa sh ln) A s.heap μ H locs → lv_has ls 6 [(0, .ref (oa (3, 0))), (1, .ref (oa (13, j1))), (2, .int v2), (3, .int v3)] → W p l e (rmq 4 93) s m args below meth c H locs 0 0 Q (F0 m 49 ls [.int s0, .int s1, .ref (oa (11, 8))]) := by
    intro μ s0 s1 H locs ls hf hW hl
    unfold f_X4_meet_J49 at hf
    obtain ⟨x49, h49, hf⟩ := bd_of hf
    refine r_callV (k := ((11, 8) : Ky)) C hW hl lk_X4_110 (c_X1_put hwf rfl h49) ⟨rfl, rfl⟩ ⟨Nat.le_of_ble_eq_true rfl, Nat.le_of_ble_eq_true rfl⟩ rfl (faB_11 rfl) rfl (As := [.int s1, .int s0]) (rest := []) rfl rfl (Nat.le_of_ble_eq_true rfl) dX4_meet_49 ⟨Nat.zero_le _, Nat.zero_le _⟩ (fun H locs hW => ?_)
    show W p l e (rmq 4 93) s m args below meth c H locs 0 0 Q (F0 m 52 ls [])
    refine lv_iconst (v := 0) hx hb dX4_meet_52 (by decide) ?_
    refine lv_istore (lv' := [(4, .int (0 : Int32)), (0, .ref (oa (3, 0))), (1, .ref (oa (13, j1))), (2, .int v2), (3, .int v3)]) hx hb dX4_meet_53 hl (by decide) rfl (fun ls hl => ?_)
    have L55 : ∀ (μ : Mm) (v4 : Int32) (H : Heap) (locs : List Loc) (ls : Array Slot), Wh (fun z : Mm × Int32 => f_X4_meet_L55 sh ln j1 v2 v3 z.1 z.2) (μ, v4) = some res → Wd D (faB oa aa sh) (feB tc oa aa sh ln) A s.heap μ H locs → lv_has ls 6 [(0, .ref (oa (3, 0))), (1, .ref (oa (13, j1))), (2, .int v2), (3, .int v3), (4, .int v4)] → W p l e (rmq 4 93) s m args below meth c H locs 0 0 Q (F0 m 55 ls []) := by
      intro μ v4 H locs ls hf hW hl
      refine Wh_rule hf (fun z : Mm × Int32 => ∀ (H : Heap) (locs : List Loc) (ls : Array Slot), Wd D (faB oa aa sh) (feB tc oa aa sh ln) A s.heap z.1 H locs → lv_has ls 6 [(0, .ref (oa (3, 0))), (1, .ref (oa (13, j1))), (2, .int v2), (3, .int v3), (4, .int z.2)] → W p l e (rmq 4 93) s m args below meth c H locs 0 0 Q (F0 m 55 ls [])) (fun z o1 hf Kl1 Kr1 => ?_) _ _ _ hW hl
      obtain ⟨μ, v4⟩ := z
      intro H locs ls hW hl
      have hf : f_X4_meet_L55 sh ln j1 v2 v3 μ v4 = some o1 := hf
      unfold f_X4_meet_L55 at hf
      have hW : Wd D (faB oa aa sh) (feB tc oa aa sh ln) A s.heap μ H locs := hW
      have hl : lv_has ls 6 [(0, .ref (oa (3, 0))), (1, .ref (oa (13, j1))), (2, .int v2), (3, .int v3), (4, .int v4)] := hl
      refine lv_iload hx hb dX4_meet_55 (lv_at hl 4 rfl) ?_
      refine lv_bipush (v := 8) hx hb dX4_meet_57 (by decide) ?_
      refine lv_icmp_ge (tgt := 142) hx hb dX4_meet_59 (by decide) (fun c1 => ?_) (fun c1 => ?_)
      · have hf := (if_pos c1).symm.trans hf
        obtain ⟨x9005, hf, hx9005⟩ := map_of hf
        have e9005 := (Kr1 _ hx9005.symm).symm
        subst e9005
        refine lv_aload_n hx hb dX4_meet_142 rfl (lv_at hl 0 rfl) ?_
        refine lv_aload_n hx hb dX4_meet_143 rfl (lv_at hl 1 rfl) ?_
        refine lv_aload_n hx hb dX4_meet_144 rfl (lv_at hl 1 rfl) ?_
        refine gf_X4_84 C hW hj1 dX4_meet_145 ?_
        refine lv_iload_n hx hb dX4_meet_148 rfl (lv_at hl 2 rfl) ?_
        refine lv_iload_n hx hb dX4_meet_149 rfl (lv_at hl 2 rfl) ?_
        obtain ⟨x150, h150, hf⟩ := bd_of hf
        refine r_callV (k := ((3, 0) : Ky)) C hW hl lk_X4_95 (c_X4_spot hwf hj1 (cex_st hj1 (by decide)) h150) ⟨rfl, rfl⟩ ⟨Nat.le_of_ble_eq_true rfl, Nat.le_of_ble_eq_true rfl⟩ rfl rfl rfl (As := [.ref (oa (13, j1)), .ref (oa (11, 15 + 5 * j1 + 2)), .int v2, .int v2]) (rest := []) rfl rfl (Nat.le_of_ble_eq_true rfl) dX4_meet_150 ⟨Nat.zero_le _, Nat.zero_le _⟩ (fun H locs hW => ?_)
        show W p l e (rmq 4 93) s m args below meth c H locs 0 0 Q (F0 m 153 ls [])
        refine lv_iconst (v := 0) hx hb dX4_meet_153 (by decide) ?_
        refine lv_istore (lv' := [(4, .int (0 : Int32)), (0, .ref (oa (3, 0))), (1, .ref (oa (13, j1))), (2, .int v2), (3, .int v3)]) hx hb dX4_meet_154 hl (by decide) rfl (fun ls hl => ?_)
        have L156 : ∀ (μ : Mm) (v4 : Int32) (H : Heap) (locs : List Loc) (ls : Array Slot), Wh (fun z : Mm × Int32 => f_X4_meet_L156 sh ln j1 v2 v3 z.1 z.2) (μ, v4) = some res → Wd D (faB oa aa sh) (feB tc oa aa sh ln) A s.heap μ H locs → lv_has ls 6 [(0, .ref (oa (3, 0))), (1, .ref (oa (13, j1))), (2, .int v2), (3, .int v3), (4, .int v4)] → W p l e (rmq 4 93) s m args below meth c H locs 0 0 Q (F0 m 156 ls []) := by
          intro μ v4 H locs ls hf hW hl
          refine Wh_rule hf (fun z : Mm × Int32 => ∀ (H : Heap) (locs : List Loc) (ls : Array Slot), Wd D (faB oa aa sh) (feB tc oa aa sh ln) A s.heap z.1 H locs → lv_has ls 6 [(0, .ref (oa (3, 0))), (1, .ref (oa (13, j1))), (2, .int v2), (3, .int v3), (4, .int z.2)] → W p l e (rmq 4 93) s m args below meth c H locs 0 0 Q (F0 m 156 ls [])) (fun z o1 hf Kl1 Kr1 => ?_) _ _ _ hW hl
          obtain ⟨μ, v4⟩ := z
          intro H locs ls hW hl
          have hf : f_X4_meet_L156 sh ln j1 v2 v3 μ v4 = some o1 := hf
          unfold f_X4_meet_L156 at hf
          have hW : Wd D (faB oa aa sh) (feB tc oa aa sh ln) A s.heap μ H locs := hW
          have hl : lv_has ls 6 [(0, .ref (oa (3, 0))), (1, .ref (oa (13, j1))), (2, .int v2), (3, .int v3), (4, .int v4)] := hl
          have J186 : ∀ (μ : Mm) (v4 s0 : Int32) (H : Heap) (locs : List Loc) (ls : Array Slot), f_X4_meet_J186 sh ln j1 μ v2 v3 v4 s0 = some o1 → Wd D (faB oa aa sh) (feB tc oa aa sh ln) A s.heap μ H locs → lv_has ls 6 [(0, .ref (oa (3, 0))), (1, .ref (oa (13, j1))), (2, .int v2), (3, .int v3), (4, .int v4)] → W p l e (rmq 4 93) s m args below meth c H locs 0 0 Q (F0 m 186 ls [.int s0]) := by
            intro μ v4 s0 H locs ls hf hW hl
            unfold f_X4_meet_J186 at hf
            refine lv_istore (lv' := [(5, .int s0), (0, .ref (oa (3, 0))), (1, .ref (oa (13, j1))), (2, .int v2), (3, .int v3), (4, .int v4)]) hx hb dX4_meet_186 hl (by decide) rfl (fun ls hl => ?_)
            refine lv_aload_n hx hb dX4_meet_188 rfl (lv_at hl 1 rfl) ?_
            refine gf_X4_25 C hW dX4_meet_189 ?_
            refine lv_iload hx hb dX4_meet_192 (lv_at hl 5 rfl) ?_
            refine lv_aload_n hx hb dX4_meet_194 rfl (lv_at hl 1 rfl) ?_
            refine gf_X4_37 C hW dX4_meet_195 ?_
            refine lv_aload_n hx hb dX4_meet_198 rfl (lv_at hl 2 rfl) ?_
            refine lv_iload hx hb dX4_meet_199 (lv_at hl 5 rfl) ?_
            refine lv_iload_n hx hb dX4_meet_201 rfl (lv_at hl 4 rfl) ?_
            obtain ⟨x202, h202, hf⟩ := bd_of hf
            refine r_callV (k := ((13, j1) : Ky)) C hW hl lk_X4_60 (c_X6_figure hwf hj1 h202) ⟨rfl, rfl⟩ ⟨Nat.le_of_ble_eq_true rfl, Nat.le_of_ble_eq_true rfl⟩ rfl (faB_13 hj1) rfl (As := [.int v4, .int v3]) (rest := [.ref (oa (11, 7)), .int v4, .ref (oa (11, 3))]) rfl rfl (Nat.le_of_ble_eq_true rfl) dX4_meet_202 ⟨Nat.zero_le _, Nat.zero_le _⟩ (fun H locs hW => ?_)
            show W p l e (rmq 4 93) s m args below meth c H locs 0 0 Q (F0 m 205 ls [.int x202, .ref (oa (11, 7)), .int v4, .ref (oa (11, 3))])
            refine lv_iconst (v := 1) hx hb dX4_meet_205 (by decide) ?_
            refine lv_ishl hx hb dX4_meet_206 ?_
            refine lv_iload hx hb dX4_meet_207 (lv_at hl 0 rfl) ?_
            refine lv_ior hx hb dX4_meet_209 ?_
            obtain ⟨x210, h210, hf⟩ := bd_of hf
            refine r_callV (k := ((11, 7) : Ky)) C hW hl lk_X4_56 (c_X1_at hwf rfl h210) ⟨rfl, rfl⟩ ⟨Nat.le_of_ble_eq_true rfl, Nat.le_of_ble_eq_true rfl⟩ rfl (faB_11 rfl) rfl (As := [.int ((x202 <<< ((1 : Int32) &&& 31)) ||| s0)]) (rest := [.int v4, .ref (oa (11, 3))]) rfl rfl (Nat.le_of_ble_eq_true rfl) dX4_meet_210 ⟨Nat.zero_le _, Nat.zero_le _⟩ (fun H locs hW => ?_)
            show W p l e (rmq 4 93) s m args below meth c H locs 0 0 Q (F0 m 213 ls [.int x210, .int v4, .ref (oa (11, 3))])
            obtain ⟨x213, h213, hf⟩ := bd_of hf
            refine r_callV (k := ((11, 3) : Ky)) C hW hl lk_X4_110 (c_X1_put hwf rfl h213) ⟨rfl, rfl⟩ ⟨Nat.le_of_ble_eq_true rfl, Nat.le_of_ble_eq_true rfl⟩ rfl (faB_11 rfl) rfl (As := [.int v4, .int x210]) (rest := []) rfl rfl (Nat.le_of_ble_eq_true rfl) dX4_meet_213 ⟨Nat.zero_le _, Nat.zero_le _⟩ (fun H locs hW => ?_)
            show W p l e (rmq 4 93) s m args below meth c H locs 0 0 Q (F0 m 216 ls [])
            refine lv_iinc (v := (v4 + (1 : Int32))) (lv' := [(4, .int (v4 + (1 : Int32))), (5, .int s0), (0, .ref (oa (3, 0))), (1, .ref (oa (13, j1))), (2, .int v2), (3, .int v3)]) hx hb dX4_meet_216 hl (k := 5) rfl rfl (by decide) rfl (fun ls hl => ?_)
            refine lv_goto (tgt := 156) hx hb dX4_meet_219 (by decide) ?_
            obtain rfl := Option.some.inj hf
            exact Kl1 _ rfl _ _ _ hW (lv_sub hl [2, 3, 4, 5, 0] rfl)
          refine lv_iload hx hb dX4_meet_156 (lv_at hl 4 rfl) ?_
          refine lv_aload_n hx hb dX4_meet_158 rfl (lv_at hl 1 rfl) ?_
          refine gf_X4_52 C hW hj1 dX4_meet_159 ?_
          refine lv_icmp_ge (tgt := 222) hx hb dX4_meet_162 (by decide) (fun c2 => ?_) (fun c2 => ?_)
          · have hf := (if_pos c2).symm.trans hf
            obtain ⟨x9003, hf, hx9003⟩ := map_of hf
            have e9003 := (Kr1 _ hx9003.symm).symm
            subst e9003
            obtain rfl := Option.some.inj hf
            rw [hQ]
            exact r_vret C hr hk hW rfl rfl dX4_meet_222
          · have hf := (if_neg c2).symm.trans hf
            refine lv_aload_n hx hb dX4_meet_165 rfl (lv_at hl 0 rfl) ?_
            refine lv_aload_n hx hb dX4_meet_166 rfl (lv_at hl 0 rfl) ?_
            refine lv_aload_n hx hb dX4_meet_167 rfl (lv_at hl 1 rfl) ?_
            refine lv_iload_n hx hb dX4_meet_168 rfl (lv_at hl 2 rfl) ?_
            refine lv_iload hx hb dX4_meet_169 (lv_at hl 4 rfl) ?_
            obtain ⟨x171, h171, hf⟩ := bd_of hf
            refine r_callV (k := ((3, 0) : Ky)) C hW hl lk_X4_99 (c_X4_spotted hwf hj1 h171) ⟨rfl, rfl⟩ ⟨Nat.le_of_ble_eq_true rfl, Nat.le_of_ble_eq_true rfl⟩ rfl rfl rfl (As := [.ref (oa (13, j1)), .int v2, .int v4]) (rest := [.ref (oa (3, 0))]) rfl rfl (Nat.le_of_ble_eq_true rfl) dX4_meet_171 ⟨Nat.zero_le _, Nat.zero_le _⟩ (fun H locs hW => ?_)
            show W p l e (rmq 4 93) s m args below meth c H locs 0 0 Q (F0 m 174 ls [.int x171, .ref (oa (3, 0))])
            obtain ⟨x174, h174, hf⟩ := bd_of hf
            refine r_callV (k := ((3, 0) : Ky)) C hW hl lk_X4_75 (c_X4_onlyOne h174) ⟨rfl, rfl⟩ ⟨Nat.le_of_ble_eq_true rfl, Nat.le_of_ble_eq_true rfl⟩ rfl rfl rfl (As := [.int x171]) (rest := []) rfl rfl (Nat.le_of_ble_eq_true rfl) dX4_meet_174 ⟨Nat.zero_le _, Nat.zero_le _⟩ (fun H locs hW => ?_)
            show W p l e (rmq 4 93) s m args below meth c H locs 0 0 Q (F0 m 177 ls [.int x174])
            refine lv_iconst (v := -1) hx hb dX4_meet_177 (by decide) ?_
            refine lv_icmp_ne (tgt := 185) hx hb dX4_meet_178 (by decide) (fun c4 => ?_) (fun c4 => ?_)
            · have hf := (if_neg c4).symm.trans hf
              refine lv_iconst (v := 1) hx hb dX4_meet_185 (by decide) ?_
              exact J186 μ v4 (1 : Int32) _ _ _ hf hW (lv_sub hl [0, 1, 2, 3, 4] rfl)
            · have hf := (if_pos c4).symm.trans hf
              refine lv_iconst (v := 0) hx hb dX4_meet_181 (by decide) ?_
              refine lv_goto (tgt := 186) hx hb dX4_meet_182 (by decide) ?_
              exact J186 μ v4 (0 : Int32) _ _ _ hf hW (lv_sub hl [0, 1, 2, 3, 4] rfl)
        exact L156 x150 (0 : Int32) _ _ _ hf hW (lv_sub hl [1, 2, 3, 4, 0] rfl)
      · have hf := (if_neg c1).symm.trans hf
        refine lv_aload_n hx hb dX4_meet_62 rfl (lv_at hl 0 rfl) ?_
        refine gf_X4_42 C hW dX4_meet_63 ?_
        refine lv_iconst (v := 0) hx hb dX4_meet_66 (by decide) ?_
        refine lv_iload hx hb dX4_meet_67 (lv_at hl 4 rfl) ?_
        refine lv_iconst (v := 1) hx hb dX4_meet_69 (by decide) ?_
        refine lv_ishr hx hb dX4_meet_70 ?_
        obtain ⟨x71, h71, hf⟩ := bd_of hf
        refine r_callV (k := ((11, 8) : Ky)) C hW hl lk_X4_110 (c_X1_put hwf rfl h71) ⟨rfl, rfl⟩ ⟨Nat.le_of_ble_eq_true rfl, Nat.le_of_ble_eq_true rfl⟩ rfl (faB_11 rfl) rfl (As := [.int (0 : Int32), .int (v4 >>> ((1 : Int32) &&& 31))]) (rest := []) rfl rfl (Nat.le_of_ble_eq_true rfl) dX4_meet_71 ⟨Nat.zero_le _, Nat.zero_le _⟩ (fun H locs hW => ?_)
        show W p l e (rmq 4 93) s m args below meth c H locs 0 0 Q (F0 m 74 ls [])
        refine lv_aload_n hx hb dX4_meet_74 rfl (lv_at hl 0 rfl) ?_
        refine gf_X4_42 C hW dX4_meet_75 ?_
        refine lv_iconst (v := 4) hx hb dX4_meet_78 (by decide) ?_
        refine lv_iload hx hb dX4_meet_79 (lv_at hl 4 rfl) ?_
        refine lv_iconst (v := 1) hx hb dX4_meet_81 (by decide) ?_
        refine lv_iand hx hb dX4_meet_82 ?_
        obtain ⟨x83, h83, hf⟩ := bd_of hf
        refine r_callV (k := ((11, 8) : Ky)) C hW hl lk_X4_110 (c_X1_put hwf rfl h83) ⟨rfl, rfl⟩ ⟨Nat.le_of_ble_eq_true rfl, Nat.le_of_ble_eq_true rfl⟩ rfl (faB_11 rfl) rfl (As := [.int (4 : Int32), .int (v4 &&& (1 : Int32))]) (rest := []) rfl rfl (Nat.le_of_ble_eq_true rfl) dX4_meet_83 ⟨Nat.zero_le _, Nat.zero_le _⟩ (fun H locs hW => ?_)
        show W p l e (rmq 4 93) s m args below meth c H locs 0 0 Q (F0 m 86 ls [])
        refine lv_aload_n hx hb dX4_meet_86 rfl (lv_at hl 0 rfl) ?_
        refine gf_X4_34 C hW dX4_meet_87 ?_
        refine lv_iload hx hb dX4_meet_90 (lv_at hl 4 rfl) ?_
        refine lv_aload_n hx hb dX4_meet_92 rfl (lv_at hl 1 rfl) ?_
        by_cases q6 : x83 (13, j1) 8 = 0
        · have hf := (if_pos q6).symm.trans hf
          refine gn_X4_155 C hW hj1 q6 dX4_meet_93 ?_
          refine lv_ifnonnullN hx hb dX4_meet_96 ?_
          refine lv_iconst (v := 0) hx hb dX4_meet_99 (by decide) ?_
          refine lv_goto (tgt := 118) hx hb dX4_meet_100 (by decide) ?_
          obtain ⟨x118, h118, hf⟩ := bd_of hf
          refine r_callV (k := ((11, 6) : Ky)) C hW hl lk_X4_110 (c_X1_put hwf rfl h118) ⟨rfl, rfl⟩ ⟨Nat.le_of_ble_eq_true rfl, Nat.le_of_ble_eq_true rfl⟩ rfl (faB_11 rfl) rfl (As := [.int v4, .int (0 : Int32)]) (rest := []) rfl rfl (Nat.le_of_ble_eq_true rfl) dX4_meet_118 ⟨Nat.zero_le _, Nat.zero_le _⟩ (fun H locs hW => ?_)
          show W p l e (rmq 4 93) s m args below meth c H locs 0 0 Q (F0 m 121 ls [])
          refine lv_aload_n hx hb dX4_meet_121 rfl (lv_at hl 0 rfl) ?_
          refine gf_X4_37 C hW dX4_meet_122 ?_
          refine lv_iload hx hb dX4_meet_125 (lv_at hl 4 rfl) ?_
          refine lv_aload_n hx hb dX4_meet_127 rfl (lv_at hl 0 rfl) ?_
          refine lv_iload hx hb dX4_meet_128 (lv_at hl 4 rfl) ?_
          obtain ⟨x130, h130, hf⟩ := bd_of hf
          refine r_callV (k := ((3, 0) : Ky)) C hW hl lk_X4_163 (c_X4_firstLike hwf h130) ⟨rfl, rfl⟩ ⟨Nat.le_of_ble_eq_true rfl, Nat.le_of_ble_eq_true rfl⟩ rfl rfl rfl (As := [.int v4]) (rest := [.int v4, .ref (oa (11, 7))]) rfl rfl (Nat.le_of_ble_eq_true rfl) dX4_meet_130 ⟨Nat.zero_le _, Nat.zero_le _⟩ (fun H locs hW => ?_)
          show W p l e (rmq 4 93) s m args below meth c H locs 0 0 Q (F0 m 133 ls [.int x130, .int v4, .ref (oa (11, 7))])
          obtain ⟨x133, h133, hf⟩ := bd_of hf
          refine r_callV (k := ((11, 7) : Ky)) C hW hl lk_X4_110 (c_X1_put hwf rfl h133) ⟨rfl, rfl⟩ ⟨Nat.le_of_ble_eq_true rfl, Nat.le_of_ble_eq_true rfl⟩ rfl (faB_11 rfl) rfl (As := [.int v4, .int x130]) (rest := []) rfl rfl (Nat.le_of_ble_eq_true rfl) dX4_meet_133 ⟨Nat.zero_le _, Nat.zero_le _⟩ (fun H locs hW => ?_)
          show W p l e (rmq 4 93) s m args below meth c H locs 0 0 Q (F0 m 136 ls [])
          refine lv_iinc (v := (v4 + (1 : Int32))) (lv' := [(4, .int (v4 + (1 : Int32))), (0, .ref (oa (3, 0))), (1, .ref (oa (13, j1))), (2, .int v2), (3, .int v3)]) hx hb dX4_meet_136 hl (k := 4) rfl rfl (by decide) rfl (fun ls hl => ?_)
          refine lv_goto (tgt := 55) hx hb dX4_meet_139 (by decide) ?_
          obtain rfl := Option.some.inj hf
          exact Kl1 _ rfl _ _ _ hW (lv_sub hl [1, 2, 3, 4, 0] rfl)
        · have hf := (if_neg q6).symm.trans hf
          refine gf_X4_155 C hW hj1 q6 dX4_meet_93 ?_
          obtain ⟨hq6, hf⟩ := ce_of hf
          refine lv_ifnonnull (tgt := 103) hx hb dX4_meet_96 (by decide) ?_
          refine lv_aload_n hx hb dX4_meet_103 rfl (lv_at hl 1 rfl) ?_
          by_cases q7 : x83 (13, j1) 8 = 0
          · have hf := (if_pos q7).symm.trans hf
            refine gn_X4_155 C hW hj1 q7 dX4_meet_104 ?_
            refine lv_aload_n hx hb dX4_meet_107 rfl (lv_at hl 0 rfl) ?_
            refine gf_X4_42 C hW dX4_meet_108 ?_
            refine lv_aload_n hx hb dX4_meet_111 rfl (lv_at hl 0 rfl) ?_
            refine gf_X4_45 C hW dX4_meet_112 ?_
            cases hf
          · have hf := (if_neg q7).symm.trans hf
            refine gf_X4_155 C hW hj1 q7 dX4_meet_104 ?_
            obtain ⟨hq7, hf⟩ := ce_of hf
            refine lv_aload_n hx hb dX4_meet_107 rfl (lv_at hl 0 rfl) ?_
            refine gf_X4_42 C hW dX4_meet_108 ?_
            refine lv_aload_n hx hb dX4_meet_111 rfl (lv_at hl 0 rfl) ?_
            refine gf_X4_45 C hW dX4_meet_112 ?_
            obtain ⟨x115, h115, hf⟩ := bd_of hf
            refine r_callV (k := ((14, (x83 (13, j1) 8).toNatClampNeg - 1) : Ky)) C hW hl lk_X4_159 (c_X2_total hwf hq7 rfl rfl h115) ⟨rfl, rfl⟩ ⟨Nat.le_of_ble_eq_true rfl, Nat.le_of_ble_eq_true rfl⟩ rfl (faB_14 hq7) rfl (As := [.ref (oa (11, 8)), .ref (oa (11, 9))]) (rest := [.int v4, .ref (oa (11, 6))]) rfl rfl (Nat.le_of_ble_eq_true rfl) dX4_meet_115 ⟨Nat.zero_le _, Nat.zero_le _⟩ (fun H locs hW => ?_)
            show W p l e (rmq 4 93) s m args below meth c H locs 0 0 Q (F0 m 118 ls [.int x115.1, .int v4, .ref (oa (11, 6))])
            obtain ⟨x118, h118, hf⟩ := bd_of hf
            refine r_callV (k := ((11, 6) : Ky)) C hW hl lk_X4_110 (c_X1_put hwf rfl h118) ⟨rfl, rfl⟩ ⟨Nat.le_of_ble_eq_true rfl, Nat.le_of_ble_eq_true rfl⟩ rfl (faB_11 rfl) rfl (As := [.int v4, .int x115.1]) (rest := []) rfl rfl (Nat.le_of_ble_eq_true rfl) dX4_meet_118 ⟨Nat.zero_le _, Nat.zero_le _⟩ (fun H locs hW => ?_)
            show W p l e (rmq 4 93) s m args below meth c H locs 0 0 Q (F0 m 121 ls [])
            refine lv_aload_n hx hb dX4_meet_121 rfl (lv_at hl 0 rfl) ?_
            refine gf_X4_37 C hW dX4_meet_122 ?_
            refine lv_iload hx hb dX4_meet_125 (lv_at hl 4 rfl) ?_
            refine lv_aload_n hx hb dX4_meet_127 rfl (lv_at hl 0 rfl) ?_
            refine lv_iload hx hb dX4_meet_128 (lv_at hl 4 rfl) ?_
            obtain ⟨x130, h130, hf⟩ := bd_of hf
            refine r_callV (k := ((3, 0) : Ky)) C hW hl lk_X4_163 (c_X4_firstLike hwf h130) ⟨rfl, rfl⟩ ⟨Nat.le_of_ble_eq_true rfl, Nat.le_of_ble_eq_true rfl⟩ rfl rfl rfl (As := [.int v4]) (rest := [.int v4, .ref (oa (11, 7))]) rfl rfl (Nat.le_of_ble_eq_true rfl) dX4_meet_130 ⟨Nat.zero_le _, Nat.zero_le _⟩ (fun H locs hW => ?_)
            show W p l e (rmq 4 93) s m args below meth c H locs 0 0 Q (F0 m 133 ls [.int x130, .int v4, .ref (oa (11, 7))])
            obtain ⟨x133, h133, hf⟩ := bd_of hf
            refine r_callV (k := ((11, 7) : Ky)) C hW hl lk_X4_110 (c_X1_put hwf rfl h133) ⟨rfl, rfl⟩ ⟨Nat.le_of_ble_eq_true rfl, Nat.le_of_ble_eq_true rfl⟩ rfl (faB_11 rfl) rfl (As := [.int v4, .int x130]) (rest := []) rfl rfl (Nat.le_of_ble_eq_true rfl) dX4_meet_133 ⟨Nat.zero_le _, Nat.zero_le _⟩ (fun H locs hW => ?_)
            show W p l e (rmq 4 93) s m args below meth c H locs 0 0 Q (F0 m 136 ls [])
            refine lv_iinc (v := (v4 + (1 : Int32))) (lv' := [(4, .int (v4 + (1 : Int32))), (0, .ref (oa (3, 0))), (1, .ref (oa (13, j1))), (2, .int v2), (3, .int v3)]) hx hb dX4_meet_136 hl (k := 4) rfl rfl (by decide) rfl (fun ls hl => ?_)
            refine lv_goto (tgt := 55) hx hb dX4_meet_139 (by decide) ?_
            obtain rfl := Option.some.inj hf
            exact Kl1 _ rfl _ _ _ hW (lv_sub hl [1, 2, 3, 4, 0] rfl)
    exact L55 x49 (0 : Int32) _ _ _ hf hW (lv_sub hl [1, 2, 3, 4, 0] rfl)
  refine lv_aload_n hx hb dX4_meet_0 rfl (lv_at hl 0 rfl) ?_
  refine gf_X4_42 C hW dX4_meet_1 ?_
  refine lv_iconst (v := 1) hx hb dX4_meet_4 (by decide) ?_
  refine lv_iload_n hx hb dX4_meet_5 rfl (lv_at hl 2 rfl) ?_
  obtain ⟨x6, h6, hf⟩ := bd_of hf
  refine r_callV (k := ((11, 8) : Ky)) C hW hl lk_X4_110 (c_X1_put hwf rfl h6) ⟨rfl, rfl⟩ ⟨Nat.le_of_ble_eq_true rfl, Nat.le_of_ble_eq_true rfl⟩ rfl (faB_11 rfl) rfl (As := [.int (1 : Int32), .int v2]) (rest := []) rfl rfl (Nat.le_of_ble_eq_true rfl) dX4_meet_6 ⟨Nat.zero_le _, Nat.zero_le _⟩ (fun H locs hW => ?_)
  show W p l e (rmq 4 93) s m args below meth c H locs 0 0 Q (F0 m 9 ls [])
  refine lv_aload_n hx hb dX4_meet_9 rfl (lv_at hl 0 rfl) ?_
  refine gf_X4_42 C hW dX4_meet_10 ?_
  refine lv_iconst (v := 2) hx hb dX4_meet_13 (by decide) ?_
  refine lv_iload_n hx hb dX4_meet_14 rfl (lv_at hl 3 rfl) ?_
  obtain ⟨x15, h15, hf⟩ := bd_of hf
  refine r_callV (k := ((11, 8) : Ky)) C hW hl lk_X4_110 (c_X1_put hwf rfl h15) ⟨rfl, rfl⟩ ⟨Nat.le_of_ble_eq_true rfl, Nat.le_of_ble_eq_true rfl⟩ rfl (faB_11 rfl) rfl (As := [.int (2 : Int32), .int v3]) (rest := []) rfl rfl (Nat.le_of_ble_eq_true rfl) dX4_meet_15 ⟨Nat.zero_le _, Nat.zero_le _⟩ (fun H locs hW => ?_)
  show W p l e (rmq 4 93) s m args below meth c H locs 0 0 Q (F0 m 18 ls [])
  refine lv_aload_n hx hb dX4_meet_18 rfl (lv_at hl 0 rfl) ?_
  refine gf_X4_42 C hW dX4_meet_19 ?_
  refine lv_iconst (v := 3) hx hb dX4_meet_22 (by decide) ?_
  refine lv_aload_n hx hb dX4_meet_23 rfl (lv_at hl 1 rfl) ?_
  refine gf_X4_148 C hW hj1 dX4_meet_24 ?_
  obtain ⟨x27, h27, hf⟩ := bd_of hf
  refine r_callV (k := ((11, 8) : Ky)) C hW hl lk_X4_110 (c_X1_put hwf rfl h27) ⟨rfl, rfl⟩ ⟨Nat.le_of_ble_eq_true rfl, Nat.le_of_ble_eq_true rfl⟩ rfl (faB_11 rfl) rfl (As := [.int (3 : Int32), .int (x15 (13, j1) 4)]) (rest := []) rfl rfl (Nat.le_of_ble_eq_true rfl) dX4_meet_27 ⟨Nat.zero_le _, Nat.zero_le _⟩ (fun H locs hW => ?_)
  show W p l e (rmq 4 93) s m args below meth c H locs 0 0 Q (F0 m 30 ls [])
  refine lv_aload_n hx hb dX4_meet_30 rfl (lv_at hl 0 rfl) ?_
  refine gf_X4_42 C hW dX4_meet_31 ?_
  refine lv_iconst (v := 5) hx hb dX4_meet_34 (by decide) ?_
  refine lv_aload_n hx hb dX4_meet_35 rfl (lv_at hl 1 rfl) ?_
  refine lv_iload_n hx hb dX4_meet_36 rfl (lv_at hl 3 rfl) ?_
  refine lv_iload_n hx hb dX4_meet_37 rfl (lv_at hl 2 rfl) ?_
  obtain ⟨x38, h38, hf⟩ := bd_of hf
  refine r_callV (k := ((13, j1) : Ky)) C hW hl lk_X4_151 (c_X6_hasSight hwf hj1 h38) ⟨rfl, rfl⟩ ⟨Nat.le_of_ble_eq_true rfl, Nat.le_of_ble_eq_true rfl⟩ rfl (faB_13 hj1) rfl (As := [.int v3, .int v2]) (rest := [.int (5 : Int32), .ref (oa (11, 8))]) rfl rfl (Nat.le_of_ble_eq_true rfl) dX4_meet_38 ⟨Nat.zero_le _, Nat.zero_le _⟩ (fun H locs hW => ?_)
  show W p l e (rmq 4 93) s m args below meth c H locs 0 0 Q (F0 m 41 ls [.int x38, .int (5 : Int32), .ref (oa (11, 8))])
  refine lv_if_eq (tgt := 48) hx hb dX4_meet_41 (by decide) (fun c8 => ?_) (fun c8 => ?_)
  · have hf := (if_pos c8).symm.trans hf
    refine lv_iconst (v := 0) hx hb dX4_meet_48 (by decide) ?_
    exact J49 x27 (0 : Int32) (5 : Int32) _ _ _ hf hW (lv_sub hl [0, 1, 2, 3] rfl)
  · have hf := (if_neg c8).symm.trans hf
    refine lv_iconst (v := 1) hx hb dX4_meet_44 (by decide) ?_
    refine lv_goto (tgt := 49) hx hb dX4_meet_45 (by decide) ?_
    exact J49 x27 (1 : Int32) (5 : Int32) _ _ _ hf hW (lv_sub hl [0, 1, 2, 3] rfl)
set_option maxHeartbeats 4000000 in
set_option maxRecDepth 100000 in
theorem c_X4_mannerIn {l : Launch} {D : va_G} {tc : Nat → ClassId} {ro : Ro} {oa : Ky → Nat} {aa : Nat → Nat} {sh : Sh} {ln : Nat → Nat} {μ : Mm} {v1 : Int32} {res : Int32} (hwf : WfS sh) (hf : f_X4_mannerIn sh ln μ v1 = some res) : Ct l D tc ro (faB oa aa sh) (feB tc oa aa sh ln) yX4_mannerIn cX4_mannerIn 2 (some .int) (rmq 1 21) [.ref (oa (3, 0)), .int v1] μ (some (.int res)) μ := by
  refine Ct.of (by decide) (Nat.le_of_ble_eq_true rfl) (fun p e s m args below meth c A C hr hk hW ls hl => ?_)
  have hx := C.1.1
  have hb := C.1.2.1
  obtain ⟨Q, hQ⟩ : ∃ Q, Q = MQ below (Ctq D (faB oa aa sh) (feB tc oa aa sh ln) (some (.int res)) μ A) args s 0 0 A := ⟨_, rfl⟩
  rw [← hQ]
  have hl : lv_has ls 2 [(0, .ref (oa (3, 0))), (1, .int v1)] := hl
  unfold f_X4_mannerIn at hf
  refine lv_aload_n hx hb dX4_mannerIn_0 rfl (lv_at hl 0 rfl) ?_
  refine gf_X4_34 C hW dX4_mannerIn_1 ?_
  refine lv_aload_n hx hb dX4_mannerIn_4 rfl (lv_at hl 0 rfl) ?_
  refine gf_X4_25 C hW dX4_mannerIn_5 ?_
  refine lv_iload_n hx hb dX4_mannerIn_8 rfl (lv_at hl 1 rfl) ?_
  obtain ⟨x9, h9, hf⟩ := bd_of hf
  refine r_callV (k := ((11, 3) : Ky)) C hW hl lk_X4_56 (c_X1_at hwf rfl h9) ⟨rfl, rfl⟩ ⟨Nat.le_of_ble_eq_true rfl, Nat.le_of_ble_eq_true rfl⟩ rfl (faB_11 rfl) rfl (As := [.int v1]) (rest := [.ref (oa (11, 6))]) rfl rfl (Nat.le_of_ble_eq_true rfl) dX4_mannerIn_9 ⟨Nat.zero_le _, Nat.zero_le _⟩ (fun H locs hW => ?_)
  show W p l e (rmq 1 21) s m args below meth c H locs 0 0 Q (F0 m 12 ls [.int x9, .ref (oa (11, 6))])
  obtain ⟨x12, h12, hf⟩ := bd_of hf
  refine r_callV (k := ((11, 6) : Ky)) C hW hl lk_X4_56 (c_X1_at hwf rfl h12) ⟨rfl, rfl⟩ ⟨Nat.le_of_ble_eq_true rfl, Nat.le_of_ble_eq_true rfl⟩ rfl (faB_11 rfl) rfl (As := [.int x9]) (rest := []) rfl rfl (Nat.le_of_ble_eq_true rfl) dX4_mannerIn_12 ⟨Nat.zero_le _, Nat.zero_le _⟩ (fun H locs hW => ?_)
  show W p l e (rmq 1 21) s m args below meth c H locs 0 0 Q (F0 m 15 ls [.int x12])
  obtain rfl := Option.some.inj hf
  rw [hQ]
  exact r_iret C hr hk hW rfl rfl dX4_mannerIn_15
set_option maxHeartbeats 4000000 in
set_option maxRecDepth 100000 in
theorem c_X4_split {l : Launch} {D : va_G} {tc : Nat → ClassId} {ro : Ro} {oa : Ky → Nat} {aa : Nat → Nat} {sh : Sh} {ln : Nat → Nat} {j1 : Nat} {μ : Mm} {v2 : Int32} {res : Mm} (hwf : WfS sh) (hj1 : sh 2 j1 = 1) (hf : f_X4_split sh ln j1 μ v2 = some res) : Ct l D tc ro (faB oa aa sh) (feB tc oa aa sh ln) yX4_split cX4_split 6 none (rmq 3 68) [.ref (oa (3, 0)), .ref (oa (13, j1)), .int v2] μ none res := by
  refine Ct.of (by decide) (Nat.le_of_ble_eq_true rfl) (fun p e s m args below meth c A C hr hk hW ls hl => ?_)
  have hx := C.1.1
  have hb := C.1.2.1
  obtain ⟨Q, hQ⟩ : ∃ Q, Q = MQ below (Ctq D (faB oa aa sh) (feB tc oa aa sh ln) none res A) args s 0 0 A := ⟨_, rfl⟩
  rw [← hQ]
  have hl : lv_has ls 6 [(0, .ref (oa (3, 0))), (1, .ref (oa (13, j1))), (2, .int v2)] := hl
  unfold f_X4_split at hf
  refine lv_aload_n hx hb dX4_split_0 rfl (lv_at hl 0 rfl) ?_
  refine gf_X4_18 C hW dX4_split_1 ?_
  refine lv_iconst (v := -1) hx hb dX4_split_4 (by decide) ?_
  refine lv_aload_n hx hb dX4_split_5 rfl (lv_at hl 1 rfl) ?_
  refine gf_X4_52 C hW hj1 dX4_split_6 ?_
  refine lv_bipush (v := 8) hx hb dX4_split_9 (by decide) ?_
  refine lv_imul hx hb dX4_split_11 ?_
  obtain ⟨x12, h12, hf⟩ := bd_of hf
  refine r_callV (k := ((11, 1) : Ky)) C hW hl lk_X4_103 (c_X1_fill hwf rfl h12) ⟨rfl, rfl⟩ ⟨Nat.le_of_ble_eq_true rfl, Nat.le_of_ble_eq_true rfl⟩ rfl (faB_11 rfl) rfl (As := [.int (-1 : Int32), .int ((μ (13, j1) 2) * (8 : Int32))]) (rest := []) rfl rfl (Nat.le_of_ble_eq_true rfl) dX4_split_12 ⟨Nat.zero_le _, Nat.zero_le _⟩ (fun H locs hW => ?_)
  show W p l e (rmq 3 68) s m args below meth c H locs 0 0 Q (F0 m 15 ls [])
  refine lv_iconst (v := 0) hx hb dX4_split_15 (by decide) ?_
  refine lv_istore_n (lv' := [(3, .int (0 : Int32)), (0, .ref (oa (3, 0))), (1, .ref (oa (13, j1))), (2, .int v2)]) hx hb dX4_split_16 rfl hl (by decide) rfl (fun ls hl => ?_)
  refine lv_iconst (v := 0) hx hb dX4_split_17 (by decide) ?_
  refine lv_istore (lv' := [(4, .int (0 : Int32)), (3, .int (0 : Int32)), (0, .ref (oa (3, 0))), (1, .ref (oa (13, j1))), (2, .int v2)]) hx hb dX4_split_18 hl (by decide) rfl (fun ls hl => ?_)
  have L20 : ∀ (μ : Mm) (v3 v4 : Int32) (H : Heap) (locs : List Loc) (ls : Array Slot), Wh (fun z : Mm × Int32 × Int32 => f_X4_split_L20 sh ln j1 v2 z.1 z.2.1 z.2.2) (μ, v3, v4) = some res → Wd D (faB oa aa sh) (feB tc oa aa sh ln) A s.heap μ H locs → lv_has ls 6 [(0, .ref (oa (3, 0))), (1, .ref (oa (13, j1))), (2, .int v2), (3, .int v3), (4, .int v4)] → W p l e (rmq 3 68) s m args below meth c H locs 0 0 Q (F0 m 20 ls []) := by
    intro μ v3 v4 H locs ls hf hW hl
    refine Wh_rule hf (fun z : Mm × Int32 × Int32 => ∀ (H : Heap) (locs : List Loc) (ls : Array Slot), Wd D (faB oa aa sh) (feB tc oa aa sh ln) A s.heap z.1 H locs → lv_has ls 6 [(0, .ref (oa (3, 0))), (1, .ref (oa (13, j1))), (2, .int v2), (3, .int z.2.1), (4, .int z.2.2)] → W p l e (rmq 3 68) s m args below meth c H locs 0 0 Q (F0 m 20 ls [])) (fun z o1 hf Kl1 Kr1 => ?_) _ _ _ hW hl
    obtain ⟨μ, v3, v4⟩ := z
    intro H locs ls hW hl
    have hf : f_X4_split_L20 sh ln j1 v2 μ v3 v4 = some o1 := hf
    unfold f_X4_split_L20 at hf
    have hW : Wd D (faB oa aa sh) (feB tc oa aa sh ln) A s.heap μ H locs := hW
    have hl : lv_has ls 6 [(0, .ref (oa (3, 0))), (1, .ref (oa (13, j1))), (2, .int v2), (3, .int v3), (4, .int v4)] := hl
    have J86 : ∀ (μ : Mm) (v3 v4 v5 : Int32) (H : Heap) (locs : List Loc) (ls : Array Slot), f_X4_split_J86 sh ln j1 μ v2 v3 v4 v5 = some o1 → Wd D (faB oa aa sh) (feB tc oa aa sh ln) A s.heap μ H locs → lv_has ls 6 [(0, .ref (oa (3, 0))), (1, .ref (oa (13, j1))), (2, .int v2), (3, .int v3), (4, .int v4), (5, .int v5)] → W p l e (rmq 3 68) s m args below meth c H locs 0 0 Q (F0 m 86 ls []) := by
      intro μ v3 v4 v5 H locs ls hf hW hl
      unfold f_X4_split_J86 at hf
      refine lv_aload_n hx hb dX4_split_86 rfl (lv_at hl 1 rfl) ?_
      refine gf_X4_172 C hW hj1 dX4_split_87 ?_
      refine lv_iload_n hx hb dX4_split_90 rfl (lv_at hl 2 rfl) ?_
      refine lv_aload_n hx hb dX4_split_91 rfl (lv_at hl 1 rfl) ?_
      refine gf_X4_52 C hW hj1 dX4_split_92 ?_
      refine lv_imul hx hb dX4_split_95 ?_
      refine lv_iload hx hb dX4_split_96 (lv_at hl 4 rfl) ?_
      refine lv_iadd hx hb dX4_split_98 ?_
      refine lv_aload_n hx hb dX4_split_99 rfl (lv_at hl 0 rfl) ?_
      refine gf_X4_18 C hW dX4_split_100 ?_
      refine lv_iload hx hb dX4_split_103 (lv_at hl 5 rfl) ?_
      obtain ⟨x105, h105, hf⟩ := bd_of hf
      refine r_callV (k := ((11, 1) : Ky)) C hW hl lk_X4_56 (c_X1_at hwf rfl h105) ⟨rfl, rfl⟩ ⟨Nat.le_of_ble_eq_true rfl, Nat.le_of_ble_eq_true rfl⟩ rfl (faB_11 rfl) rfl (As := [.int v5]) (rest := [.int ((v2 * (μ (13, j1) 2)) + v4), .ref (oa (11, 15 + 5 * j1 + 3))]) rfl rfl (Nat.le_of_ble_eq_true rfl) dX4_split_105 ⟨Nat.zero_le _, Nat.zero_le _⟩ (fun H locs hW => ?_)
      show W p l e (rmq 3 68) s m args below meth c H locs 0 0 Q (F0 m 108 ls [.int x105, .int ((v2 * (μ (13, j1) 2)) + v4), .ref (oa (11, 15 + 5 * j1 + 3))])
      obtain ⟨x108, h108, hf⟩ := bd_of hf
      refine r_callV (k := ((11, 15 + 5 * j1 + 3) : Ky)) C hW hl lk_X4_110 (c_X1_put hwf (cex_st hj1 (by decide)) h108) ⟨rfl, rfl⟩ ⟨Nat.le_of_ble_eq_true rfl, Nat.le_of_ble_eq_true rfl⟩ rfl (faB_11 (cex_st hj1 (by decide))) rfl (As := [.int ((v2 * (μ (13, j1) 2)) + v4), .int x105]) (rest := []) rfl rfl (Nat.le_of_ble_eq_true rfl) dX4_split_108 ⟨Nat.zero_le _, Nat.zero_le _⟩ (fun H locs hW => ?_)
      show W p l e (rmq 3 68) s m args below meth c H locs 0 0 Q (F0 m 111 ls [])
      refine lv_iinc (v := (v4 + (1 : Int32))) (lv' := [(4, .int (v4 + (1 : Int32))), (0, .ref (oa (3, 0))), (1, .ref (oa (13, j1))), (2, .int v2), (3, .int v3), (5, .int v5)]) hx hb dX4_split_111 hl (k := 4) rfl rfl (by decide) rfl (fun ls hl => ?_)
      refine lv_goto (tgt := 20) hx hb dX4_split_114 (by decide) ?_
      obtain rfl := Option.some.inj hf
      exact Kl1 _ rfl _ _ _ hW (lv_sub hl [1, 2, 3, 4, 0] rfl)
    refine lv_iload hx hb dX4_split_20 (lv_at hl 4 rfl) ?_
    refine lv_aload_n hx hb dX4_split_22 rfl (lv_at hl 1 rfl) ?_
    refine gf_X4_52 C hW hj1 dX4_split_23 ?_
    refine lv_icmp_ge (tgt := 117) hx hb dX4_split_26 (by decide) (fun c1 => ?_) (fun c1 => ?_)
    · have hf := (if_pos c1).symm.trans hf
      obtain ⟨x9002, hf, hx9002⟩ := map_of hf
      have e9002 := (Kr1 _ hx9002.symm).symm
      subst e9002
      obtain rfl := Option.some.inj hf
      rw [hQ]
      exact r_vret C hr hk hW rfl rfl dX4_split_117
    · have hf := (if_neg c1).symm.trans hf
      refine lv_aload_n hx hb dX4_split_29 rfl (lv_at hl 1 rfl) ?_
      refine lv_iload hx hb dX4_split_30 (lv_at hl 4 rfl) ?_
      obtain ⟨x32, h32, hf⟩ := bd_of hf
      refine r_callV (k := ((13, j1) : Ky)) C hW hl lk_X4_87 (c_X6_stands hwf hj1 h32) ⟨rfl, rfl⟩ ⟨Nat.le_of_ble_eq_true rfl, Nat.le_of_ble_eq_true rfl⟩ rfl (faB_13 hj1) rfl (As := [.int v4]) (rest := []) rfl rfl (Nat.le_of_ble_eq_true rfl) dX4_split_32 ⟨Nat.zero_le _, Nat.zero_le _⟩ (fun H locs hW => ?_)
      show W p l e (rmq 3 68) s m args below meth c H locs 0 0 Q (F0 m 35 ls [.int x32])
      refine lv_if_eq (tgt := 111) hx hb dX4_split_35 (by decide) (fun c3 => ?_) (fun c3 => ?_)
      · have hf := (if_pos c3).symm.trans hf
        refine lv_iinc (v := (v4 + (1 : Int32))) (lv' := [(4, .int (v4 + (1 : Int32))), (0, .ref (oa (3, 0))), (1, .ref (oa (13, j1))), (2, .int v2), (3, .int v3)]) hx hb dX4_split_111 hl (k := 4) rfl rfl (by decide) rfl (fun ls hl => ?_)
        refine lv_goto (tgt := 20) hx hb dX4_split_114 (by decide) ?_
        obtain rfl := Option.some.inj hf
        exact Kl1 _ rfl _ _ _ hW (lv_sub hl [1, 2, 3, 4, 0] rfl)
      · have hf := (if_neg c3).symm.trans hf
        refine lv_aload_n hx hb dX4_split_38 rfl (lv_at hl 1 rfl) ?_
        refine lv_iload_n hx hb dX4_split_39 rfl (lv_at hl 2 rfl) ?_
        refine lv_iload hx hb dX4_split_40 (lv_at hl 4 rfl) ?_
        obtain ⟨x42, h42, hf⟩ := bd_of hf
        refine r_callV (k := ((13, j1) : Ky)) C hW hl lk_X4_48 (c_X6_group hwf hj1 h42) ⟨rfl, rfl⟩ ⟨Nat.le_of_ble_eq_true rfl, Nat.le_of_ble_eq_true rfl⟩ rfl (faB_13 hj1) rfl (As := [.int v2, .int v4]) (rest := []) rfl rfl (Nat.le_of_ble_eq_true rfl) dX4_split_42 ⟨Nat.zero_le _, Nat.zero_le _⟩ (fun H locs hW => ?_)
        show W p l e (rmq 3 68) s m args below meth c H locs 0 0 Q (F0 m 45 ls [.int x42])
        refine lv_bipush (v := 8) hx hb dX4_split_45 (by decide) ?_
        refine lv_imul hx hb dX4_split_47 ?_
        refine lv_aload_n hx hb dX4_split_48 rfl (lv_at hl 0 rfl) ?_
        refine gf_X4_25 C hW dX4_split_49 ?_
        refine lv_iload hx hb dX4_split_52 (lv_at hl 4 rfl) ?_
        obtain ⟨x54, h54, hf⟩ := bd_of hf
        refine r_callV (k := ((11, 3) : Ky)) C hW hl lk_X4_56 (c_X1_at hwf rfl h54) ⟨rfl, rfl⟩ ⟨Nat.le_of_ble_eq_true rfl, Nat.le_of_ble_eq_true rfl⟩ rfl (faB_11 rfl) rfl (As := [.int v4]) (rest := [.int (x42 * (8 : Int32))]) rfl rfl (Nat.le_of_ble_eq_true rfl) dX4_split_54 ⟨Nat.zero_le _, Nat.zero_le _⟩ (fun H locs hW => ?_)
        show W p l e (rmq 3 68) s m args below meth c H locs 0 0 Q (F0 m 57 ls [.int x54, .int (x42 * (8 : Int32))])
        refine lv_iadd hx hb dX4_split_57 ?_
        refine lv_istore (lv' := [(5, .int ((x42 * (8 : Int32)) + x54)), (0, .ref (oa (3, 0))), (1, .ref (oa (13, j1))), (2, .int v2), (3, .int v3), (4, .int v4)]) hx hb dX4_split_58 hl (by decide) rfl (fun ls hl => ?_)
        refine lv_aload_n hx hb dX4_split_60 rfl (lv_at hl 1 rfl) ?_
        refine gf_X4_18 C hW dX4_split_61 ?_
        refine lv_iload hx hb dX4_split_64 (lv_at hl 0 rfl) ?_
        obtain ⟨x66, h66, hf⟩ := bd_of hf
        refine r_callV (k := ((11, 1) : Ky)) C hW hl lk_X4_56 (c_X1_at hwf rfl h66) ⟨rfl, rfl⟩ ⟨Nat.le_of_ble_eq_true rfl, Nat.le_of_ble_eq_true rfl⟩ rfl (faB_11 rfl) rfl (As := [.int ((x42 * (8 : Int32)) + x54)]) (rest := []) rfl rfl (Nat.le_of_ble_eq_true rfl) dX4_split_66 ⟨Nat.zero_le _, Nat.zero_le _⟩ (fun H locs hW => ?_)
        show W p l e (rmq 3 68) s m args below meth c H locs 0 0 Q (F0 m 69 ls [.int x66])
        refine lv_iconst (v := -1) hx hb dX4_split_69 (by decide) ?_
        refine lv_icmp_ne (tgt := 86) hx hb dX4_split_70 (by decide) (fun c4 => ?_) (fun c4 => ?_)
        · have hf := (if_neg c4).symm.trans hf
          exact J86 μ v3 v4 ((x42 * (8 : Int32)) + x54) _ _ _ hf hW (lv_sub hl [1, 2, 3, 4, 5, 0] rfl)
        · have hf := (if_pos c4).symm.trans hf
          refine lv_aload_n hx hb dX4_split_73 rfl (lv_at hl 1 rfl) ?_
          refine gf_X4_18 C hW dX4_split_74 ?_
          refine lv_iload hx hb dX4_split_77 (lv_at hl 0 rfl) ?_
          refine lv_iload_n hx hb dX4_split_79 rfl (lv_at hl 4 rfl) ?_
          obtain ⟨x80, h80, hf⟩ := bd_of hf
          refine r_callV (k := ((11, 1) : Ky)) C hW hl lk_X4_110 (c_X1_put hwf rfl h80) ⟨rfl, rfl⟩ ⟨Nat.le_of_ble_eq_true rfl, Nat.le_of_ble_eq_true rfl⟩ rfl (faB_11 rfl) rfl (As := [.int ((x42 * (8 : Int32)) + x54), .int v3]) (rest := []) rfl rfl (Nat.le_of_ble_eq_true rfl) dX4_split_80 ⟨Nat.zero_le _, Nat.zero_le _⟩ (fun H locs hW => ?_)
          show W p l e (rmq 3 68) s m args below meth c H locs 0 0 Q (F0 m 83 ls [])
          refine lv_iinc (v := (v3 + (1 : Int32))) (lv' := [(3, .int (v3 + (1 : Int32))), (5, .int ((x42 * (8 : Int32)) + x54)), (0, .ref (oa (3, 0))), (1, .ref (oa (13, j1))), (2, .int v2), (4, .int v4)]) hx hb dX4_split_83 hl (k := 4) rfl rfl (by decide) rfl (fun ls hl => ?_)
          exact J86 x80 (v3 + (1 : Int32)) v4 ((x42 * (8 : Int32)) + x54) _ _ _ hf hW (lv_sub hl [2, 3, 4, 0, 5, 1] rfl)
  exact L20 x12 (0 : Int32) (0 : Int32) _ _ _ hf hW (lv_sub hl [2, 3, 4, 1, 0] rfl)
set_option maxHeartbeats 4000000 in
set_option maxRecDepth 100000 in
theorem c_X4_look {l : Launch} {D : va_G} {tc : Nat → ClassId} {ro : Ro} {oa : Ky → Nat} {aa : Nat → Nat} {sh : Sh} {ln : Nat → Nat} {j1 : Nat} {μ : Mm} {v2 v3 : Int32} {res : Mm} (hwf : WfS sh) (hj1 : sh 2 j1 = 1) (hf : f_X4_look sh ln j1 μ v2 v3 = some res) : Ct l D tc ro (faB oa aa sh) (feB tc oa aa sh ln) yX4_look cX4_look 5 none (rmq 4 93) [.ref (oa (3, 0)), .ref (oa (13, j1)), .int v2, .int v3] μ none res := by
  refine Ct.of (by decide) (Nat.le_of_ble_eq_true rfl) (fun p e s m args below meth c A C hr hk hW ls hl => ?_)
  have hx := C.1.1
  have hb := C.1.2.1
  obtain ⟨Q, hQ⟩ : ∃ Q, Q = MQ below (Ctq D (faB oa aa sh) (feB tc oa aa sh ln) none res A) args s 0 0 A := ⟨_, rfl⟩
  rw [← hQ]
  have hl : lv_has ls 5 [(0, .ref (oa (3, 0))), (1, .ref (oa (13, j1))), (2, .int v2), (3, .int v3)] := hl
  unfold f_X4_look at hf
  refine lv_aload_n hx hb dX4_look_0 rfl (lv_at hl 1 rfl) ?_
  refine gf_X4_166 C hW hj1 dX4_look_1 ?_
  refine lv_iload_n hx hb dX4_look_4 rfl (lv_at hl 2 rfl) ?_
  refine lv_iconst (v := 1) hx hb dX4_look_5 (by decide) ?_
  refine lv_iload_n hx hb dX4_look_6 rfl (lv_at hl 3 rfl) ?_
  refine lv_ishl hx hb dX4_look_7 ?_
  obtain ⟨x8, h8, hf⟩ := bd_of hf
  refine r_callV (k := ((11, 15 + 5 * j1 + 1) : Ky)) C hW hl lk_X4_107 (c_X1_addBits hwf (cex_st hj1 (by decide)) h8) ⟨rfl, rfl⟩ ⟨Nat.le_of_ble_eq_true rfl, Nat.le_of_ble_eq_true rfl⟩ rfl (faB_11 (cex_st hj1 (by decide))) rfl (As := [.int v2, .int ((1 : Int32) <<< (v3 &&& 31))]) (rest := []) rfl rfl (Nat.le_of_ble_eq_true rfl) dX4_look_8 ⟨Nat.zero_le _, Nat.zero_le _⟩ (fun H locs hW => ?_)
  show W p l e (rmq 4 93) s m args below meth c H locs 0 0 Q (F0 m 11 ls [])
  refine lv_iconst (v := 0) hx hb dX4_look_11 (by decide) ?_
  refine lv_istore (lv' := [(4, .int (0 : Int32)), (0, .ref (oa (3, 0))), (1, .ref (oa (13, j1))), (2, .int v2), (3, .int v3)]) hx hb dX4_look_12 hl (by decide) rfl (fun ls hl => ?_)
  have L14 : ∀ (μ : Mm) (v4 : Int32) (H : Heap) (locs : List Loc) (ls : Array Slot), Wh (fun z : Mm × Int32 => f_X4_look_L14 sh ln j1 v2 v3 z.1 z.2) (μ, v4) = some res → Wd D (faB oa aa sh) (feB tc oa aa sh ln) A s.heap μ H locs → lv_has ls 5 [(0, .ref (oa (3, 0))), (1, .ref (oa (13, j1))), (2, .int v2), (3, .int v3), (4, .int v4)] → W p l e (rmq 4 93) s m args below meth c H locs 0 0 Q (F0 m 14 ls []) := by
    intro μ v4 H locs ls hf hW hl
    refine Wh_rule hf (fun z : Mm × Int32 => ∀ (H : Heap) (locs : List Loc) (ls : Array Slot), Wd D (faB oa aa sh) (feB tc oa aa sh ln) A s.heap z.1 H locs → lv_has ls 5 [(0, .ref (oa (3, 0))), (1, .ref (oa (13, j1))), (2, .int v2), (3, .int v3), (4, .int z.2)] → W p l e (rmq 4 93) s m args below meth c H locs 0 0 Q (F0 m 14 ls [])) (fun z o1 hf Kl1 Kr1 => ?_) _ _ _ hW hl
    obtain ⟨μ, v4⟩ := z
    intro H locs ls hW hl
    have hf : f_X4_look_L14 sh ln j1 v2 v3 μ v4 = some o1 := hf
    unfold f_X4_look_L14 at hf
    have hW : Wd D (faB oa aa sh) (feB tc oa aa sh ln) A s.heap μ H locs := hW
    have hl : lv_has ls 5 [(0, .ref (oa (3, 0))), (1, .ref (oa (13, j1))), (2, .int v2), (3, .int v3), (4, .int v4)] := hl
    refine lv_iload hx hb dX4_look_14 (lv_at hl 4 rfl) ?_
    refine lv_aload_n hx hb dX4_look_16 rfl (lv_at hl 1 rfl) ?_
    refine gf_X4_52 C hW hj1 dX4_look_17 ?_
    refine lv_icmp_ge (tgt := 45) hx hb dX4_look_20 (by decide) (fun c1 => ?_) (fun c1 => ?_)
    · have hf := (if_pos c1).symm.trans hf
      obtain ⟨x9002, hf, hx9002⟩ := map_of hf
      have e9002 := (Kr1 _ hx9002.symm).symm
      subst e9002
      refine lv_aload_n hx hb dX4_look_45 rfl (lv_at hl 0 rfl) ?_
      refine lv_aload_n hx hb dX4_look_46 rfl (lv_at hl 1 rfl) ?_
      refine lv_iload_n hx hb dX4_look_47 rfl (lv_at hl 2 rfl) ?_
      obtain ⟨x48, h48, hf⟩ := bd_of hf
      refine r_callV (k := ((3, 0) : Ky)) C hW hl lk_X4_169 (c_X4_split hwf hj1 h48) ⟨rfl, rfl⟩ ⟨Nat.le_of_ble_eq_true rfl, Nat.le_of_ble_eq_true rfl⟩ rfl rfl rfl (As := [.ref (oa (13, j1)), .int v2]) (rest := []) rfl rfl (Nat.le_of_ble_eq_true rfl) dX4_look_48 ⟨Nat.zero_le _, Nat.zero_le _⟩ (fun H locs hW => ?_)
      show W p l e (rmq 4 93) s m args below meth c H locs 0 0 Q (F0 m 51 ls [])
      obtain rfl := Option.some.inj hf
      rw [hQ]
      exact r_vret C hr hk hW rfl rfl dX4_look_51
    · have hf := (if_neg c1).symm.trans hf
      refine lv_aload_n hx hb dX4_look_23 rfl (lv_at hl 0 rfl) ?_
      refine gf_X4_25 C hW dX4_look_24 ?_
      refine lv_iload hx hb dX4_look_27 (lv_at hl 4 rfl) ?_
      refine lv_aload_n hx hb dX4_look_29 rfl (lv_at hl 1 rfl) ?_
      refine lv_iload hx hb dX4_look_30 (lv_at hl 4 rfl) ?_
      refine lv_iload_n hx hb dX4_look_32 rfl (lv_at hl 3 rfl) ?_
      obtain ⟨x33, h33, hf⟩ := bd_of hf
      refine r_callV (k := ((13, j1) : Ky)) C hW hl lk_X4_60 (c_X6_figure hwf hj1 h33) ⟨rfl, rfl⟩ ⟨Nat.le_of_ble_eq_true rfl, Nat.le_of_ble_eq_true rfl⟩ rfl (faB_13 hj1) rfl (As := [.int v4, .int v3]) (rest := [.int v4, .ref (oa (11, 3))]) rfl rfl (Nat.le_of_ble_eq_true rfl) dX4_look_33 ⟨Nat.zero_le _, Nat.zero_le _⟩ (fun H locs hW => ?_)
      show W p l e (rmq 4 93) s m args below meth c H locs 0 0 Q (F0 m 36 ls [.int x33, .int v4, .ref (oa (11, 3))])
      obtain ⟨x36, h36, hf⟩ := bd_of hf
      refine r_callV (k := ((11, 3) : Ky)) C hW hl lk_X4_110 (c_X1_put hwf rfl h36) ⟨rfl, rfl⟩ ⟨Nat.le_of_ble_eq_true rfl, Nat.le_of_ble_eq_true rfl⟩ rfl (faB_11 rfl) rfl (As := [.int v4, .int x33]) (rest := []) rfl rfl (Nat.le_of_ble_eq_true rfl) dX4_look_36 ⟨Nat.zero_le _, Nat.zero_le _⟩ (fun H locs hW => ?_)
      show W p l e (rmq 4 93) s m args below meth c H locs 0 0 Q (F0 m 39 ls [])
      refine lv_iinc (v := (v4 + (1 : Int32))) (lv' := [(4, .int (v4 + (1 : Int32))), (0, .ref (oa (3, 0))), (1, .ref (oa (13, j1))), (2, .int v2), (3, .int v3)]) hx hb dX4_look_39 hl (k := 4) rfl rfl (by decide) rfl (fun ls hl => ?_)
      refine lv_goto (tgt := 14) hx hb dX4_look_42 (by decide) ?_
      obtain rfl := Option.some.inj hf
      exact Kl1 _ rfl _ _ _ hW (lv_sub hl [1, 2, 3, 4, 0] rfl)
  exact L14 x8 (0 : Int32) _ _ _ hf hW (lv_sub hl [1, 2, 3, 4, 0] rfl)
set_option maxHeartbeats 4000000 in
set_option maxRecDepth 100000 in
theorem c_X4_weigh {l : Launch} {D : va_G} {tc : Nat → ClassId} {ro : Ro} {oa : Ky → Nat} {aa : Nat → Nat} {sh : Sh} {ln : Nat → Nat} {j1 : Nat} {μ : Mm} {v2 v3 : Int32} {res : Mm} (hwf : WfS sh) (hj1 : sh 2 j1 = 1) (hf : f_X4_weigh sh ln j1 μ v2 v3 = some res) : Ct l D tc ro (faB oa aa sh) (feB tc oa aa sh ln) yX4_weigh cX4_weigh 5 none (rmq 5 118) [.ref (oa (3, 0)), .ref (oa (13, j1)), .int v2, .int v3] μ none res := by
  refine Ct.of (by decide) (Nat.le_of_ble_eq_true rfl) (fun p e s m args below meth c A C hr hk hW ls hl => ?_)
  have hx := C.1.1
  have hb := C.1.2.1
  obtain ⟨Q, hQ⟩ : ∃ Q, Q = MQ below (Ctq D (faB oa aa sh) (feB tc oa aa sh ln) none res A) args s 0 0 A := ⟨_, rfl⟩
  rw [← hQ]
  have hl : lv_has ls 5 [(0, .ref (oa (3, 0))), (1, .ref (oa (13, j1))), (2, .int v2), (3, .int v3)] := hl
  unfold f_X4_weigh at hf
  refine lv_aload_n hx hb dX4_weigh_0 rfl (lv_at hl 0 rfl) ?_
  refine lv_aload_n hx hb dX4_weigh_1 rfl (lv_at hl 1 rfl) ?_
  refine lv_iload_n hx hb dX4_weigh_2 rfl (lv_at hl 2 rfl) ?_
  refine lv_iload_n hx hb dX4_weigh_3 rfl (lv_at hl 3 rfl) ?_
  obtain ⟨x4, h4, hf⟩ := bd_of hf
  refine r_callV (k := ((3, 0) : Ky)) C hW hl lk_X4_185 (c_X4_meet hwf hj1 h4) ⟨rfl, rfl⟩ ⟨Nat.le_of_ble_eq_true rfl, Nat.le_of_ble_eq_true rfl⟩ rfl rfl rfl (As := [.ref (oa (13, j1)), .int v2, .int v3]) (rest := []) rfl rfl (Nat.le_of_ble_eq_true rfl) dX4_weigh_4 ⟨Nat.zero_le _, Nat.zero_le _⟩ (fun H locs hW => ?_)
  show W p l e (rmq 5 118) s m args below meth c H locs 0 0 Q (F0 m 7 ls [])
  refine lv_aload_n hx hb dX4_weigh_7 rfl (lv_at hl 0 rfl) ?_
  refine gf_X4_18 C hW dX4_weigh_8 ?_
  refine lv_iconst (v := 0) hx hb dX4_weigh_11 (by decide) ?_
  refine lv_aload_n hx hb dX4_weigh_12 rfl (lv_at hl 1 rfl) ?_
  refine gf_X4_52 C hW hj1 dX4_weigh_13 ?_
  refine lv_bipush (v := 8) hx hb dX4_weigh_16 (by decide) ?_
  refine lv_imul hx hb dX4_weigh_18 ?_
  obtain ⟨x19, h19, hf⟩ := bd_of hf
  refine r_callV (k := ((11, 1) : Ky)) C hW hl lk_X4_103 (c_X1_fill hwf rfl h19) ⟨rfl, rfl⟩ ⟨Nat.le_of_ble_eq_true rfl, Nat.le_of_ble_eq_true rfl⟩ rfl (faB_11 rfl) rfl (As := [.int (0 : Int32), .int ((x4 (13, j1) 2) * (8 : Int32))]) (rest := []) rfl rfl (Nat.le_of_ble_eq_true rfl) dX4_weigh_19 ⟨Nat.zero_le _, Nat.zero_le _⟩ (fun H locs hW => ?_)
  show W p l e (rmq 5 118) s m args below meth c H locs 0 0 Q (F0 m 22 ls [])
  refine lv_iconst (v := 0) hx hb dX4_weigh_22 (by decide) ?_
  refine lv_istore (lv' := [(4, .int (0 : Int32)), (0, .ref (oa (3, 0))), (1, .ref (oa (13, j1))), (2, .int v2), (3, .int v3)]) hx hb dX4_weigh_23 hl (by decide) rfl (fun ls hl => ?_)
  have L25 : ∀ (μ : Mm) (v4 : Int32) (H : Heap) (locs : List Loc) (ls : Array Slot), Wh (fun z : Mm × Int32 => f_X4_weigh_L25 sh ln j1 v3 z.1 z.2) (μ, v4) = some res → Wd D (faB oa aa sh) (feB tc oa aa sh ln) A s.heap μ H locs → lv_has ls 5 [(0, .ref (oa (3, 0))), (1, .ref (oa (13, j1))), (3, .int v3), (4, .int v4)] → W p l e (rmq 5 118) s m args below meth c H locs 0 0 Q (F0 m 25 ls []) := by
    intro μ v4 H locs ls hf hW hl
    refine Wh_rule hf (fun z : Mm × Int32 => ∀ (H : Heap) (locs : List Loc) (ls : Array Slot), Wd D (faB oa aa sh) (feB tc oa aa sh ln) A s.heap z.1 H locs → lv_has ls 5 [(0, .ref (oa (3, 0))), (1, .ref (oa (13, j1))), (3, .int v3), (4, .int z.2)] → W p l e (rmq 5 118) s m args below meth c H locs 0 0 Q (F0 m 25 ls [])) (fun z o1 hf Kl1 Kr1 => ?_) _ _ _ hW hl
    obtain ⟨μ, v4⟩ := z
    intro H locs ls hW hl
    have hf : f_X4_weigh_L25 sh ln j1 v3 μ v4 = some o1 := hf
    unfold f_X4_weigh_L25 at hf
    have hW : Wd D (faB oa aa sh) (feB tc oa aa sh ln) A s.heap μ H locs := hW
    have hl : lv_has ls 5 [(0, .ref (oa (3, 0))), (1, .ref (oa (13, j1))), (3, .int v3), (4, .int v4)] := hl
    refine lv_iload hx hb dX4_weigh_25 (lv_at hl 3 rfl) ?_
    refine lv_aload_n hx hb dX4_weigh_27 rfl (lv_at hl 1 rfl) ?_
    refine gf_X4_52 C hW hj1 dX4_weigh_28 ?_
    refine lv_icmp_ge (tgt := 85) hx hb dX4_weigh_31 (by decide) (fun c1 => ?_) (fun c1 => ?_)
    · have hf := (if_pos c1).symm.trans hf
      obtain ⟨x9002, hf, hx9002⟩ := map_of hf
      have e9002 := (Kr1 _ hx9002.symm).symm
      subst e9002
      obtain rfl := Option.some.inj hf
      rw [hQ]
      exact r_vret C hr hk hW rfl rfl dX4_weigh_85
    · have hf := (if_neg c1).symm.trans hf
      refine lv_aload_n hx hb dX4_weigh_34 rfl (lv_at hl 1 rfl) ?_
      refine lv_iload hx hb dX4_weigh_35 (lv_at hl 3 rfl) ?_
      obtain ⟨x37, h37, hf⟩ := bd_of hf
      refine r_callV (k := ((13, j1) : Ky)) C hW hl lk_X4_87 (c_X6_stands hwf hj1 h37) ⟨rfl, rfl⟩ ⟨Nat.le_of_ble_eq_true rfl, Nat.le_of_ble_eq_true rfl⟩ rfl (faB_13 hj1) rfl (As := [.int v4]) (rest := []) rfl rfl (Nat.le_of_ble_eq_true rfl) dX4_weigh_37 ⟨Nat.zero_le _, Nat.zero_le _⟩ (fun H locs hW => ?_)
      show W p l e (rmq 5 118) s m args below meth c H locs 0 0 Q (F0 m 40 ls [.int x37])
      refine lv_if_eq (tgt := 79) hx hb dX4_weigh_40 (by decide) (fun c3 => ?_) (fun c3 => ?_)
      · have hf := (if_pos c3).symm.trans hf
        refine lv_iinc (v := (v4 + (1 : Int32))) (lv' := [(4, .int (v4 + (1 : Int32))), (0, .ref (oa (3, 0))), (1, .ref (oa (13, j1))), (3, .int v3)]) hx hb dX4_weigh_79 hl (k := 3) rfl rfl (by decide) rfl (fun ls hl => ?_)
        refine lv_goto (tgt := 25) hx hb dX4_weigh_82 (by decide) ?_
        obtain rfl := Option.some.inj hf
        exact Kl1 _ rfl _ _ _ hW (lv_sub hl [1, 2, 3, 0] rfl)
      · have hf := (if_neg c3).symm.trans hf
        refine lv_aload_n hx hb dX4_weigh_43 rfl (lv_at hl 0 rfl) ?_
        refine gf_X4_18 C hW dX4_weigh_44 ?_
        refine lv_aload_n hx hb dX4_weigh_47 rfl (lv_at hl 1 rfl) ?_
        refine lv_iload_n hx hb dX4_weigh_48 rfl (lv_at hl 2 rfl) ?_
        refine lv_iload hx hb dX4_weigh_49 (lv_at hl 3 rfl) ?_
        obtain ⟨x51, h51, hf⟩ := bd_of hf
        refine r_callV (k := ((13, j1) : Ky)) C hW hl lk_X4_48 (c_X6_group hwf hj1 h51) ⟨rfl, rfl⟩ ⟨Nat.le_of_ble_eq_true rfl, Nat.le_of_ble_eq_true rfl⟩ rfl (faB_13 hj1) rfl (As := [.int v3, .int v4]) (rest := [.ref (oa (11, 1))]) rfl rfl (Nat.le_of_ble_eq_true rfl) dX4_weigh_51 ⟨Nat.zero_le _, Nat.zero_le _⟩ (fun H locs hW => ?_)
        show W p l e (rmq 5 118) s m args below meth c H locs 0 0 Q (F0 m 54 ls [.int x51, .ref (oa (11, 1))])
        refine lv_bipush (v := 8) hx hb dX4_weigh_54 (by decide) ?_
        refine lv_imul hx hb dX4_weigh_56 ?_
        refine lv_aload_n hx hb dX4_weigh_57 rfl (lv_at hl 0 rfl) ?_
        refine gf_X4_25 C hW dX4_weigh_58 ?_
        refine lv_iload hx hb dX4_weigh_61 (lv_at hl 3 rfl) ?_
        obtain ⟨x63, h63, hf⟩ := bd_of hf
        refine r_callV (k := ((11, 3) : Ky)) C hW hl lk_X4_56 (c_X1_at hwf rfl h63) ⟨rfl, rfl⟩ ⟨Nat.le_of_ble_eq_true rfl, Nat.le_of_ble_eq_true rfl⟩ rfl (faB_11 rfl) rfl (As := [.int v4]) (rest := [.int (x51 * (8 : Int32)), .ref (oa (11, 1))]) rfl rfl (Nat.le_of_ble_eq_true rfl) dX4_weigh_63 ⟨Nat.zero_le _, Nat.zero_le _⟩ (fun H locs hW => ?_)
        show W p l e (rmq 5 118) s m args below meth c H locs 0 0 Q (F0 m 66 ls [.int x63, .int (x51 * (8 : Int32)), .ref (oa (11, 1))])
        refine lv_iadd hx hb dX4_weigh_66 ?_
        refine lv_iconst (v := 1) hx hb dX4_weigh_67 (by decide) ?_
        refine lv_aload_n hx hb dX4_weigh_68 rfl (lv_at hl 1 rfl) ?_
        refine lv_iload hx hb dX4_weigh_69 (lv_at hl 3 rfl) ?_
        refine lv_iload_n hx hb dX4_weigh_71 rfl (lv_at hl 2 rfl) ?_
        obtain ⟨x72, h72, hf⟩ := bd_of hf
        refine r_callV (k := ((13, j1) : Ky)) C hW hl lk_X4_60 (c_X6_figure hwf hj1 h72) ⟨rfl, rfl⟩ ⟨Nat.le_of_ble_eq_true rfl, Nat.le_of_ble_eq_true rfl⟩ rfl (faB_13 hj1) rfl (As := [.int v4, .int v3]) (rest := [.int (1 : Int32), .int ((x51 * (8 : Int32)) + x63), .ref (oa (11, 1))]) rfl rfl (Nat.le_of_ble_eq_true rfl) dX4_weigh_72 ⟨Nat.zero_le _, Nat.zero_le _⟩ (fun H locs hW => ?_)
        show W p l e (rmq 5 118) s m args below meth c H locs 0 0 Q (F0 m 75 ls [.int x72, .int (1 : Int32), .int ((x51 * (8 : Int32)) + x63), .ref (oa (11, 1))])
        refine lv_ishl hx hb dX4_weigh_75 ?_
        obtain ⟨x76, h76, hf⟩ := bd_of hf
        refine r_callV (k := ((11, 1) : Ky)) C hW hl lk_X4_107 (c_X1_addBits hwf rfl h76) ⟨rfl, rfl⟩ ⟨Nat.le_of_ble_eq_true rfl, Nat.le_of_ble_eq_true rfl⟩ rfl (faB_11 rfl) rfl (As := [.int ((x51 * (8 : Int32)) + x63), .int ((1 : Int32) <<< (x72 &&& 31))]) (rest := []) rfl rfl (Nat.le_of_ble_eq_true rfl) dX4_weigh_76 ⟨Nat.zero_le _, Nat.zero_le _⟩ (fun H locs hW => ?_)
        show W p l e (rmq 5 118) s m args below meth c H locs 0 0 Q (F0 m 79 ls [])
        refine lv_iinc (v := (v4 + (1 : Int32))) (lv' := [(4, .int (v4 + (1 : Int32))), (0, .ref (oa (3, 0))), (1, .ref (oa (13, j1))), (3, .int v3)]) hx hb dX4_weigh_79 hl (k := 3) rfl rfl (by decide) rfl (fun ls hl => ?_)
        refine lv_goto (tgt := 25) hx hb dX4_weigh_82 (by decide) ?_
        obtain rfl := Option.some.inj hf
        exact Kl1 _ rfl _ _ _ hW (lv_sub hl [1, 2, 3, 0] rfl)
  exact L25 x19 (0 : Int32) _ _ _ hf hW (lv_sub hl [1, 2, 4, 0] rfl)
set_option maxHeartbeats 4000000 in
set_option maxRecDepth 100000 in
theorem c_X4_weighed {l : Launch} {D : va_G} {tc : Nat → ClassId} {ro : Ro} {oa : Ky → Nat} {aa : Nat → Nat} {sh : Sh} {ln : Nat → Nat} {j1 : Nat} {μ : Mm} {v2 v3 : Int32} {res : Int32} (hwf : WfS sh) (hj1 : sh 2 j1 = 1) (hf : f_X4_weighed sh ln j1 μ v2 v3 = some res) : Ct l D tc ro (faB oa aa sh) (feB tc oa aa sh ln) yX4_weighed cX4_weighed 4 (some .int) (rmq 2 43) [.ref (oa (3, 0)), .ref (oa (13, j1)), .int v2, .int v3] μ (some (.int res)) μ := by
  refine Ct.of (by decide) (Nat.le_of_ble_eq_true rfl) (fun p e s m args below meth c A C hr hk hW ls hl => ?_)
  have hx := C.1.1
  have hb := C.1.2.1
  obtain ⟨Q, hQ⟩ : ∃ Q, Q = MQ below (Ctq D (faB oa aa sh) (feB tc oa aa sh ln) (some (.int res)) μ A) args s 0 0 A := ⟨_, rfl⟩
  rw [← hQ]
  have hl : lv_has ls 4 [(0, .ref (oa (3, 0))), (1, .ref (oa (13, j1))), (2, .int v2), (3, .int v3)] := hl
  unfold f_X4_weighed at hf
  refine lv_aload_n hx hb dX4_weighed_0 rfl (lv_at hl 0 rfl) ?_
  refine gf_X4_18 C hW dX4_weighed_1 ?_
  refine lv_aload_n hx hb dX4_weighed_4 rfl (lv_at hl 1 rfl) ?_
  refine lv_iload_n hx hb dX4_weighed_5 rfl (lv_at hl 2 rfl) ?_
  refine lv_iload_n hx hb dX4_weighed_6 rfl (lv_at hl 3 rfl) ?_
  obtain ⟨x7, h7, hf⟩ := bd_of hf
  refine r_callV (k := ((13, j1) : Ky)) C hW hl lk_X4_48 (c_X6_group hwf hj1 h7) ⟨rfl, rfl⟩ ⟨Nat.le_of_ble_eq_true rfl, Nat.le_of_ble_eq_true rfl⟩ rfl (faB_13 hj1) rfl (As := [.int v2, .int v3]) (rest := [.ref (oa (11, 1))]) rfl rfl (Nat.le_of_ble_eq_true rfl) dX4_weighed_7 ⟨Nat.zero_le _, Nat.zero_le _⟩ (fun H locs hW => ?_)
  show W p l e (rmq 2 43) s m args below meth c H locs 0 0 Q (F0 m 10 ls [.int x7, .ref (oa (11, 1))])
  refine lv_bipush (v := 8) hx hb dX4_weighed_10 (by decide) ?_
  refine lv_imul hx hb dX4_weighed_12 ?_
  refine lv_aload_n hx hb dX4_weighed_13 rfl (lv_at hl 0 rfl) ?_
  refine gf_X4_25 C hW dX4_weighed_14 ?_
  refine lv_iload_n hx hb dX4_weighed_17 rfl (lv_at hl 3 rfl) ?_
  obtain ⟨x18, h18, hf⟩ := bd_of hf
  refine r_callV (k := ((11, 3) : Ky)) C hW hl lk_X4_56 (c_X1_at hwf rfl h18) ⟨rfl, rfl⟩ ⟨Nat.le_of_ble_eq_true rfl, Nat.le_of_ble_eq_true rfl⟩ rfl (faB_11 rfl) rfl (As := [.int v3]) (rest := [.int (x7 * (8 : Int32)), .ref (oa (11, 1))]) rfl rfl (Nat.le_of_ble_eq_true rfl) dX4_weighed_18 ⟨Nat.zero_le _, Nat.zero_le _⟩ (fun H locs hW => ?_)
  show W p l e (rmq 2 43) s m args below meth c H locs 0 0 Q (F0 m 21 ls [.int x18, .int (x7 * (8 : Int32)), .ref (oa (11, 1))])
  refine lv_iadd hx hb dX4_weighed_21 ?_
  obtain ⟨x22, h22, hf⟩ := bd_of hf
  refine r_callV (k := ((11, 1) : Ky)) C hW hl lk_X4_56 (c_X1_at hwf rfl h22) ⟨rfl, rfl⟩ ⟨Nat.le_of_ble_eq_true rfl, Nat.le_of_ble_eq_true rfl⟩ rfl (faB_11 rfl) rfl (As := [.int ((x7 * (8 : Int32)) + x18)]) (rest := []) rfl rfl (Nat.le_of_ble_eq_true rfl) dX4_weighed_22 ⟨Nat.zero_le _, Nat.zero_le _⟩ (fun H locs hW => ?_)
  show W p l e (rmq 2 43) s m args below meth c H locs 0 0 Q (F0 m 25 ls [.int x22])
  obtain rfl := Option.some.inj hf
  rw [hQ]
  exact r_iret C hr hk hW rfl rfl dX4_weighed_25
set_option maxHeartbeats 4000000 in
set_option maxRecDepth 100000 in
theorem c_X4_whoGivesAway {l : Launch} {D : va_G} {tc : Nat → ClassId} {ro : Ro} {oa : Ky → Nat} {aa : Nat → Nat} {sh : Sh} {ln : Nat → Nat} {j1 : Nat} {μ : Mm} {v2 : Int32} {res : Int32 × Mm} (hwf : WfS sh) (hj1 : sh 2 j1 = 1) (hf : f_X4_whoGivesAway sh ln j1 μ v2 = some res) : Ct l D tc ro (faB oa aa sh) (feB tc oa aa sh ln) yX4_whoGivesAway cX4_whoGivesAway 5 (some .int) (rmq 6 142) [.ref (oa (3, 0)), .ref (oa (13, j1)), .int v2] μ (some (.int res.1)) res.2 := by
  refine Ct.of (by decide) (Nat.le_of_ble_eq_true rfl) (fun p e s m args below meth c A C hr hk hW ls hl => ?_)
  have hx := C.1.1
  have hb := C.1.2.1
  obtain ⟨Q, hQ⟩ : ∃ Q, Q = MQ below (Ctq D (faB oa aa sh) (feB tc oa aa sh ln) (some (.int res.1)) res.2 A) args s 0 0 A := ⟨_, rfl⟩
  rw [← hQ]
  have hl : lv_has ls 5 [(0, .ref (oa (3, 0))), (1, .ref (oa (13, j1))), (2, .int v2)] := hl
  unfold f_X4_whoGivesAway at hf
  refine lv_iconst (v := 0) hx hb dX4_whoGivesAway_0 (by decide) ?_
  refine lv_istore_n (lv' := [(3, .int (0 : Int32)), (0, .ref (oa (3, 0))), (1, .ref (oa (13, j1))), (2, .int v2)]) hx hb dX4_whoGivesAway_1 rfl hl (by decide) rfl (fun ls hl => ?_)
  refine lv_iconst (v := 0) hx hb dX4_whoGivesAway_2 (by decide) ?_
  refine lv_istore (lv' := [(4, .int (0 : Int32)), (3, .int (0 : Int32)), (0, .ref (oa (3, 0))), (1, .ref (oa (13, j1))), (2, .int v2)]) hx hb dX4_whoGivesAway_3 hl (by decide) rfl (fun ls hl => ?_)
  have L5 : ∀ (μ : Mm) (v3 v4 : Int32) (H : Heap) (locs : List Loc) (ls : Array Slot), Wh (fun z : Mm × Int32 × Int32 => f_X4_whoGivesAway_L5 sh ln j1 v2 z.1 z.2.1 z.2.2) (μ, v3, v4) = some res → Wd D (faB oa aa sh) (feB tc oa aa sh ln) A s.heap μ H locs → lv_has ls 5 [(0, .ref (oa (3, 0))), (1, .ref (oa (13, j1))), (2, .int v2), (3, .int v3), (4, .int v4)] → W p l e (rmq 6 142) s m args below meth c H locs 0 0 Q (F0 m 5 ls []) := by
    intro μ v3 v4 H locs ls hf hW hl
    refine Wh_rule hf (fun z : Mm × Int32 × Int32 => ∀ (H : Heap) (locs : List Loc) (ls : Array Slot), Wd D (faB oa aa sh) (feB tc oa aa sh ln) A s.heap z.1 H locs → lv_has ls 5 [(0, .ref (oa (3, 0))), (1, .ref (oa (13, j1))), (2, .int v2), (3, .int z.2.1), (4, .int z.2.2)] → W p l e (rmq 6 142) s m args below meth c H locs 0 0 Q (F0 m 5 ls [])) (fun z o1 hf Kl1 Kr1 => ?_) _ _ _ hW hl
    obtain ⟨μ, v3, v4⟩ := z
    intro H locs ls hW hl
    have hf : f_X4_whoGivesAway_L5 sh ln j1 v2 μ v3 v4 = some o1 := hf
    unfold f_X4_whoGivesAway_L5 at hf
    have hW : Wd D (faB oa aa sh) (feB tc oa aa sh ln) A s.heap μ H locs := hW
    have hl : lv_has ls 5 [(0, .ref (oa (3, 0))), (1, .ref (oa (13, j1))), (2, .int v2), (3, .int v3), (4, .int v4)] := hl
    refine lv_iload hx hb dX4_whoGivesAway_5 (lv_at hl 4 rfl) ?_
    refine lv_aload_n hx hb dX4_whoGivesAway_7 rfl (lv_at hl 1 rfl) ?_
    refine gf_X4_78 C hW hj1 dX4_whoGivesAway_8 ?_
    refine lv_icmp_ge (tgt := 69) hx hb dX4_whoGivesAway_11 (by decide) (fun c1 => ?_) (fun c1 => ?_)
    · have hf := (if_pos c1).symm.trans hf
      obtain ⟨x9002, hf, hx9002⟩ := map_of hf
      have e9002 := (Kr1 _ hx9002.symm).symm
      subst e9002
      refine lv_iload_n hx hb dX4_whoGivesAway_69 rfl (lv_at hl 3 rfl) ?_
      obtain rfl := Option.some.inj hf
      rw [hQ]
      exact r_iret C hr hk hW rfl rfl dX4_whoGivesAway_70
    · have hf := (if_neg c1).symm.trans hf
      refine lv_iload hx hb dX4_whoGivesAway_14 (lv_at hl 4 rfl) ?_
      refine lv_iload_n hx hb dX4_whoGivesAway_16 rfl (lv_at hl 2 rfl) ?_
      refine lv_icmp_eq (tgt := 63) hx hb dX4_whoGivesAway_17 (by decide) (fun c3 => ?_) (fun c3 => ?_)
      · have hf := (if_pos c3).symm.trans hf
        refine lv_iinc (v := (v4 + (1 : Int32))) (lv' := [(4, .int (v4 + (1 : Int32))), (0, .ref (oa (3, 0))), (1, .ref (oa (13, j1))), (2, .int v2), (3, .int v3)]) hx hb dX4_whoGivesAway_63 hl (k := 4) rfl rfl (by decide) rfl (fun ls hl => ?_)
        refine lv_goto (tgt := 5) hx hb dX4_whoGivesAway_66 (by decide) ?_
        obtain rfl := Option.some.inj hf
        exact Kl1 _ rfl _ _ _ hW (lv_sub hl [1, 2, 3, 4, 0] rfl)
      · have hf := (if_neg c3).symm.trans hf
        refine lv_aload_n hx hb dX4_whoGivesAway_20 rfl (lv_at hl 1 rfl) ?_
        refine lv_iload hx hb dX4_whoGivesAway_21 (lv_at hl 4 rfl) ?_
        refine lv_iload_n hx hb dX4_whoGivesAway_23 rfl (lv_at hl 2 rfl) ?_
        obtain ⟨x24, h24, hf⟩ := bd_of hf
        refine r_callV (k := ((13, j1) : Ky)) C hW hl lk_X4_151 (c_X6_hasSight hwf hj1 h24) ⟨rfl, rfl⟩ ⟨Nat.le_of_ble_eq_true rfl, Nat.le_of_ble_eq_true rfl⟩ rfl (faB_13 hj1) rfl (As := [.int v4, .int v2]) (rest := []) rfl rfl (Nat.le_of_ble_eq_true rfl) dX4_whoGivesAway_24 ⟨Nat.zero_le _, Nat.zero_le _⟩ (fun H locs hW => ?_)
        show W p l e (rmq 6 142) s m args below meth c H locs 0 0 Q (F0 m 27 ls [.int x24])
        refine lv_if_eq (tgt := 63) hx hb dX4_whoGivesAway_27 (by decide) (fun c4 => ?_) (fun c4 => ?_)
        · have hf := (if_pos c4).symm.trans hf
          refine lv_iinc (v := (v4 + (1 : Int32))) (lv' := [(4, .int (v4 + (1 : Int32))), (0, .ref (oa (3, 0))), (1, .ref (oa (13, j1))), (2, .int v2), (3, .int v3)]) hx hb dX4_whoGivesAway_63 hl (k := 4) rfl rfl (by decide) rfl (fun ls hl => ?_)
          refine lv_goto (tgt := 5) hx hb dX4_whoGivesAway_66 (by decide) ?_
          obtain rfl := Option.some.inj hf
          exact Kl1 _ rfl _ _ _ hW (lv_sub hl [1, 2, 3, 4, 0] rfl)
        · have hf := (if_neg c4).symm.trans hf
          refine lv_aload_n hx hb dX4_whoGivesAway_30 rfl (lv_at hl 0 rfl) ?_
          refine lv_aload_n hx hb dX4_whoGivesAway_31 rfl (lv_at hl 1 rfl) ?_
          refine lv_iload hx hb dX4_whoGivesAway_32 (lv_at hl 4 rfl) ?_
          refine lv_iload_n hx hb dX4_whoGivesAway_34 rfl (lv_at hl 2 rfl) ?_
          obtain ⟨x35, h35, hf⟩ := bd_of hf
          refine r_callV (k := ((3, 0) : Ky)) C hW hl lk_X4_175 (c_X4_weigh hwf hj1 h35) ⟨rfl, rfl⟩ ⟨Nat.le_of_ble_eq_true rfl, Nat.le_of_ble_eq_true rfl⟩ rfl rfl rfl (As := [.ref (oa (13, j1)), .int v4, .int v2]) (rest := []) rfl rfl (Nat.le_of_ble_eq_true rfl) dX4_whoGivesAway_35 ⟨Nat.zero_le _, Nat.zero_le _⟩ (fun H locs hW => ?_)
          show W p l e (rmq 6 142) s m args below meth c H locs 0 0 Q (F0 m 38 ls [])
          refine lv_aload_n hx hb dX4_whoGivesAway_38 rfl (lv_at hl 0 rfl) ?_
          refine lv_aload_n hx hb dX4_whoGivesAway_39 rfl (lv_at hl 0 rfl) ?_
          refine lv_aload_n hx hb dX4_whoGivesAway_40 rfl (lv_at hl 1 rfl) ?_
          refine lv_iload_n hx hb dX4_whoGivesAway_41 rfl (lv_at hl 2 rfl) ?_
          refine lv_aload_n hx hb dX4_whoGivesAway_42 rfl (lv_at hl 1 rfl) ?_
          refine gf_X4_81 C hW hj1 dX4_whoGivesAway_43 ?_
          obtain ⟨x46, h46, hf⟩ := bd_of hf
          refine r_callV (k := ((3, 0) : Ky)) C hW hl lk_X4_179 (c_X4_weighed hwf hj1 h46) ⟨rfl, rfl⟩ ⟨Nat.le_of_ble_eq_true rfl, Nat.le_of_ble_eq_true rfl⟩ rfl rfl rfl (As := [.ref (oa (13, j1)), .int v2, .int (x35 (13, j1) 3)]) (rest := [.ref (oa (3, 0))]) rfl rfl (Nat.le_of_ble_eq_true rfl) dX4_whoGivesAway_46 ⟨Nat.zero_le _, Nat.zero_le _⟩ (fun H locs hW => ?_)
          show W p l e (rmq 6 142) s m args below meth c H locs 0 0 Q (F0 m 49 ls [.int x46, .ref (oa (3, 0))])
          obtain ⟨x49, h49, hf⟩ := bd_of hf
          refine r_callV (k := ((3, 0) : Ky)) C hW hl lk_X4_75 (c_X4_onlyOne h49) ⟨rfl, rfl⟩ ⟨Nat.le_of_ble_eq_true rfl, Nat.le_of_ble_eq_true rfl⟩ rfl rfl rfl (As := [.int x46]) (rest := []) rfl rfl (Nat.le_of_ble_eq_true rfl) dX4_whoGivesAway_49 ⟨Nat.zero_le _, Nat.zero_le _⟩ (fun H locs hW => ?_)
          show W p l e (rmq 6 142) s m args below meth c H locs 0 0 Q (F0 m 52 ls [.int x49])
          refine lv_iconst (v := -1) hx hb dX4_whoGivesAway_52 (by decide) ?_
          refine lv_icmp_eq (tgt := 63) hx hb dX4_whoGivesAway_53 (by decide) (fun c5 => ?_) (fun c5 => ?_)
          · have hf := (if_pos c5).symm.trans hf
            refine lv_iinc (v := (v4 + (1 : Int32))) (lv' := [(4, .int (v4 + (1 : Int32))), (0, .ref (oa (3, 0))), (1, .ref (oa (13, j1))), (2, .int v2), (3, .int v3)]) hx hb dX4_whoGivesAway_63 hl (k := 4) rfl rfl (by decide) rfl (fun ls hl => ?_)
            refine lv_goto (tgt := 5) hx hb dX4_whoGivesAway_66 (by decide) ?_
            obtain rfl := Option.some.inj hf
            exact Kl1 _ rfl _ _ _ hW (lv_sub hl [1, 2, 3, 4, 0] rfl)
          · have hf := (if_neg c5).symm.trans hf
            refine lv_iload_n hx hb dX4_whoGivesAway_56 rfl (lv_at hl 3 rfl) ?_
            refine lv_iconst (v := 1) hx hb dX4_whoGivesAway_57 (by decide) ?_
            refine lv_iload hx hb dX4_whoGivesAway_58 (lv_at hl 4 rfl) ?_
            refine lv_ishl hx hb dX4_whoGivesAway_60 ?_
            refine lv_ior hx hb dX4_whoGivesAway_61 ?_
            refine lv_istore_n (lv' := [(3, .int (v3 ||| ((1 : Int32) <<< (v4 &&& 31)))), (0, .ref (oa (3, 0))), (1, .ref (oa (13, j1))), (2, .int v2), (4, .int v4)]) hx hb dX4_whoGivesAway_62 rfl hl (by decide) rfl (fun ls hl => ?_)
            refine lv_iinc (v := (v4 + (1 : Int32))) (lv' := [(4, .int (v4 + (1 : Int32))), (3, .int (v3 ||| ((1 : Int32) <<< (v4 &&& 31)))), (0, .ref (oa (3, 0))), (1, .ref (oa (13, j1))), (2, .int v2)]) hx hb dX4_whoGivesAway_63 hl (k := 4) rfl rfl (by decide) rfl (fun ls hl => ?_)
            refine lv_goto (tgt := 5) hx hb dX4_whoGivesAway_66 (by decide) ?_
            obtain rfl := Option.some.inj hf
            exact Kl1 _ rfl _ _ _ hW (lv_sub hl [2, 3, 4, 1, 0] rfl)
  exact L5 μ (0 : Int32) (0 : Int32) _ _ _ hf hW (lv_sub hl [2, 3, 4, 1, 0] rfl)
set_option maxHeartbeats 4000000 in
set_option maxRecDepth 100000 in
theorem c_X4_makesSureSomewhere {l : Launch} {D : va_G} {tc : Nat → ClassId} {ro : Ro} {oa : Ky → Nat} {aa : Nat → Nat} {sh : Sh} {ln : Nat → Nat} {j1 : Nat} {μ : Mm} {v2 : Int32} {res : Int32 × Mm} (hwf : WfS sh) (hj1 : sh 2 j1 = 1) (hf : f_X4_makesSureSomewhere sh ln j1 μ v2 = some res) : Ct l D tc ro (faB oa aa sh) (feB tc oa aa sh ln) yX4_makesSureSomewhere cX4_makesSureSomewhere 4 (some .boolean) (rmq 4 93) [.ref (oa (3, 0)), .ref (oa (13, j1)), .int v2] μ (some (.int res.1)) res.2 := by
  refine Ct.of (by decide) (Nat.le_of_ble_eq_true rfl) (fun p e s m args below meth c A C hr hk hW ls hl => ?_)
  have hx := C.1.1
  have hb := C.1.2.1
  obtain ⟨Q, hQ⟩ : ∃ Q, Q = MQ below (Ctq D (faB oa aa sh) (feB tc oa aa sh ln) (some (.int res.1)) res.2 A) args s 0 0 A := ⟨_, rfl⟩
  rw [← hQ]
  have hl : lv_has ls 4 [(0, .ref (oa (3, 0))), (1, .ref (oa (13, j1))), (2, .int v2)] := hl
  unfold f_X4_makesSureSomewhere at hf
  refine lv_aload_n hx hb dX4_makesSureSomewhere_0 rfl (lv_at hl 0 rfl) ?_
  refine lv_aload_n hx hb dX4_makesSureSomewhere_1 rfl (lv_at hl 1 rfl) ?_
  refine lv_aload_n hx hb dX4_makesSureSomewhere_2 rfl (lv_at hl 1 rfl) ?_
  refine gf_X4_84 C hW hj1 dX4_makesSureSomewhere_3 ?_
  refine lv_iload_n hx hb dX4_makesSureSomewhere_6 rfl (lv_at hl 2 rfl) ?_
  refine lv_iload_n hx hb dX4_makesSureSomewhere_7 rfl (lv_at hl 2 rfl) ?_
  obtain ⟨x8, h8, hf⟩ := bd_of hf
  refine r_callV (k := ((3, 0) : Ky)) C hW hl lk_X4_95 (c_X4_spot hwf hj1 (cex_st hj1 (by decide)) h8) ⟨rfl, rfl⟩ ⟨Nat.le_of_ble_eq_true rfl, Nat.le_of_ble_eq_true rfl⟩ rfl rfl rfl (As := [.ref (oa (13, j1)), .ref (oa (11, 15 + 5 * j1 + 2)), .int v2, .int v2]) (rest := []) rfl rfl (Nat.le_of_ble_eq_true rfl) dX4_makesSureSomewhere_8 ⟨Nat.zero_le _, Nat.zero_le _⟩ (fun H locs hW => ?_)
  show W p l e (rmq 4 93) s m args below meth c H locs 0 0 Q (F0 m 11 ls [])
  refine lv_iconst (v := 0) hx hb dX4_makesSureSomewhere_11 (by decide) ?_
  refine lv_istore_n (lv' := [(3, .int (0 : Int32)), (0, .ref (oa (3, 0))), (1, .ref (oa (13, j1))), (2, .int v2)]) hx hb dX4_makesSureSomewhere_12 rfl hl (by decide) rfl (fun ls hl => ?_)
  have L13 : ∀ (μ : Mm) (v3 : Int32) (H : Heap) (locs : List Loc) (ls : Array Slot), Wh (fun z : Int32 => f_X4_makesSureSomewhere_L13 sh ln j1 v2 μ z) (v3) = some res → Wd D (faB oa aa sh) (feB tc oa aa sh ln) A s.heap μ H locs → lv_has ls 4 [(0, .ref (oa (3, 0))), (1, .ref (oa (13, j1))), (2, .int v2), (3, .int v3)] → W p l e (rmq 4 93) s m args below meth c H locs 0 0 Q (F0 m 13 ls []) := by
    intro μ v3 H locs ls hf hW hl
    refine Wh_rule hf (fun z : Int32 => ∀ (H : Heap) (locs : List Loc) (ls : Array Slot), Wd D (faB oa aa sh) (feB tc oa aa sh ln) A s.heap μ H locs → lv_has ls 4 [(0, .ref (oa (3, 0))), (1, .ref (oa (13, j1))), (2, .int v2), (3, .int z)] → W p l e (rmq 4 93) s m args below meth c H locs 0 0 Q (F0 m 13 ls [])) (fun z o1 hf Kl1 Kr1 => ?_) _ _ _ hW hl
    obtain ⟨v3, ez⟩ : ∃ q, q = z := ⟨_, rfl⟩
    subst ez
    intro H locs ls hW hl
    have hf : f_X4_makesSureSomewhere_L13 sh ln j1 v2 μ v3 = some o1 := hf
    unfold f_X4_makesSureSomewhere_L13 at hf
    have hW : Wd D (faB oa aa sh) (feB tc oa aa sh ln) A s.heap μ H locs := hW
    have hl : lv_has ls 4 [(0, .ref (oa (3, 0))), (1, .ref (oa (13, j1))), (2, .int v2), (3, .int v3)] := hl
    refine lv_iload_n hx hb dX4_makesSureSomewhere_13 rfl (lv_at hl 3 rfl) ?_
    refine lv_aload_n hx hb dX4_makesSureSomewhere_14 rfl (lv_at hl 1 rfl) ?_
    refine gf_X4_52 C hW hj1 dX4_makesSureSomewhere_15 ?_
    refine lv_icmp_ge (tgt := 67) hx hb dX4_makesSureSomewhere_18 (by decide) (fun c1 => ?_) (fun c1 => ?_)
    · have hf := (if_pos c1).symm.trans hf
      obtain ⟨x9002, hf, hx9002⟩ := map_of hf
      have e9002 := (Kr1 _ hx9002.symm).symm
      subst e9002
      refine lv_iconst (v := 0) hx hb dX4_makesSureSomewhere_67 (by decide) ?_
      obtain rfl := Option.some.inj hf
      rw [hQ]
      exact r_zret C hr hk hW (Or.inl rfl) rfl rfl dX4_makesSureSomewhere_68
    · have hf := (if_neg c1).symm.trans hf
      refine lv_aload_n hx hb dX4_makesSureSomewhere_21 rfl (lv_at hl 1 rfl) ?_
      refine lv_iload_n hx hb dX4_makesSureSomewhere_22 rfl (lv_at hl 3 rfl) ?_
      obtain ⟨x23, h23, hf⟩ := bd_of hf
      refine r_callV (k := ((13, j1) : Ky)) C hW hl lk_X4_87 (c_X6_stands hwf hj1 h23) ⟨rfl, rfl⟩ ⟨Nat.le_of_ble_eq_true rfl, Nat.le_of_ble_eq_true rfl⟩ rfl (faB_13 hj1) rfl (As := [.int v3]) (rest := []) rfl rfl (Nat.le_of_ble_eq_true rfl) dX4_makesSureSomewhere_23 ⟨Nat.zero_le _, Nat.zero_le _⟩ (fun H locs hW => ?_)
      show W p l e (rmq 4 93) s m args below meth c H locs 0 0 Q (F0 m 26 ls [.int x23])
      refine lv_if_eq (tgt := 61) hx hb dX4_makesSureSomewhere_26 (by decide) (fun c3 => ?_) (fun c3 => ?_)
      · have hf := (if_pos c3).symm.trans hf
        refine lv_iinc (v := (v3 + (1 : Int32))) (lv' := [(3, .int (v3 + (1 : Int32))), (0, .ref (oa (3, 0))), (1, .ref (oa (13, j1))), (2, .int v2)]) hx hb dX4_makesSureSomewhere_61 hl (k := 3) rfl rfl (by decide) rfl (fun ls hl => ?_)
        refine lv_goto (tgt := 13) hx hb dX4_makesSureSomewhere_64 (by decide) ?_
        obtain rfl := Option.some.inj hf
        exact Kl1 _ rfl _ _ _ hW (lv_sub hl [1, 2, 3, 0] rfl)
      · have hf := (if_neg c3).symm.trans hf
        refine lv_aload_n hx hb dX4_makesSureSomewhere_29 rfl (lv_at hl 0 rfl) ?_
        refine lv_aload_n hx hb dX4_makesSureSomewhere_30 rfl (lv_at hl 0 rfl) ?_
        refine lv_aload_n hx hb dX4_makesSureSomewhere_31 rfl (lv_at hl 1 rfl) ?_
        refine lv_iload_n hx hb dX4_makesSureSomewhere_32 rfl (lv_at hl 2 rfl) ?_
        refine lv_iload_n hx hb dX4_makesSureSomewhere_33 rfl (lv_at hl 3 rfl) ?_
        obtain ⟨x34, h34, hf⟩ := bd_of hf
        refine r_callV (k := ((3, 0) : Ky)) C hW hl lk_X4_99 (c_X4_spotted hwf hj1 h34) ⟨rfl, rfl⟩ ⟨Nat.le_of_ble_eq_true rfl, Nat.le_of_ble_eq_true rfl⟩ rfl rfl rfl (As := [.ref (oa (13, j1)), .int v2, .int v3]) (rest := [.ref (oa (3, 0))]) rfl rfl (Nat.le_of_ble_eq_true rfl) dX4_makesSureSomewhere_34 ⟨Nat.zero_le _, Nat.zero_le _⟩ (fun H locs hW => ?_)
        show W p l e (rmq 4 93) s m args below meth c H locs 0 0 Q (F0 m 37 ls [.int x34, .ref (oa (3, 0))])
        obtain ⟨x37, h37, hf⟩ := bd_of hf
        refine r_callV (k := ((3, 0) : Ky)) C hW hl lk_X4_75 (c_X4_onlyOne h37) ⟨rfl, rfl⟩ ⟨Nat.le_of_ble_eq_true rfl, Nat.le_of_ble_eq_true rfl⟩ rfl rfl rfl (As := [.int x34]) (rest := []) rfl rfl (Nat.le_of_ble_eq_true rfl) dX4_makesSureSomewhere_37 ⟨Nat.zero_le _, Nat.zero_le _⟩ (fun H locs hW => ?_)
        show W p l e (rmq 4 93) s m args below meth c H locs 0 0 Q (F0 m 40 ls [.int x37])
        refine lv_iconst (v := -1) hx hb dX4_makesSureSomewhere_40 (by decide) ?_
        refine lv_icmp_ne (tgt := 61) hx hb dX4_makesSureSomewhere_41 (by decide) (fun c4 => ?_) (fun c4 => ?_)
        · have hf := (if_neg c4).symm.trans hf
          refine lv_iinc (v := (v3 + (1 : Int32))) (lv' := [(3, .int (v3 + (1 : Int32))), (0, .ref (oa (3, 0))), (1, .ref (oa (13, j1))), (2, .int v2)]) hx hb dX4_makesSureSomewhere_61 hl (k := 3) rfl rfl (by decide) rfl (fun ls hl => ?_)
          refine lv_goto (tgt := 13) hx hb dX4_makesSureSomewhere_64 (by decide) ?_
          obtain rfl := Option.some.inj hf
          exact Kl1 _ rfl _ _ _ hW (lv_sub hl [1, 2, 3, 0] rfl)
        · have hf := (if_pos c4).symm.trans hf
          refine lv_aload_n hx hb dX4_makesSureSomewhere_44 rfl (lv_at hl 0 rfl) ?_
          refine lv_aload_n hx hb dX4_makesSureSomewhere_45 rfl (lv_at hl 0 rfl) ?_
          refine lv_aload_n hx hb dX4_makesSureSomewhere_46 rfl (lv_at hl 1 rfl) ?_
          refine lv_iload_n hx hb dX4_makesSureSomewhere_47 rfl (lv_at hl 2 rfl) ?_
          refine lv_iload_n hx hb dX4_makesSureSomewhere_48 rfl (lv_at hl 3 rfl) ?_
          obtain ⟨x49, h49, hf⟩ := bd_of hf
          refine r_callV (k := ((3, 0) : Ky)) C hW hl lk_X4_179 (c_X4_weighed hwf hj1 h49) ⟨rfl, rfl⟩ ⟨Nat.le_of_ble_eq_true rfl, Nat.le_of_ble_eq_true rfl⟩ rfl rfl rfl (As := [.ref (oa (13, j1)), .int v2, .int v3]) (rest := [.ref (oa (3, 0))]) rfl rfl (Nat.le_of_ble_eq_true rfl) dX4_makesSureSomewhere_49 ⟨Nat.zero_le _, Nat.zero_le _⟩ (fun H locs hW => ?_)
          show W p l e (rmq 4 93) s m args below meth c H locs 0 0 Q (F0 m 52 ls [.int x49, .ref (oa (3, 0))])
          obtain ⟨x52, h52, hf⟩ := bd_of hf
          refine r_callV (k := ((3, 0) : Ky)) C hW hl lk_X4_75 (c_X4_onlyOne h52) ⟨rfl, rfl⟩ ⟨Nat.le_of_ble_eq_true rfl, Nat.le_of_ble_eq_true rfl⟩ rfl rfl rfl (As := [.int x49]) (rest := []) rfl rfl (Nat.le_of_ble_eq_true rfl) dX4_makesSureSomewhere_52 ⟨Nat.zero_le _, Nat.zero_le _⟩ (fun H locs hW => ?_)
          show W p l e (rmq 4 93) s m args below meth c H locs 0 0 Q (F0 m 55 ls [.int x52])
          refine lv_iconst (v := -1) hx hb dX4_makesSureSomewhere_55 (by decide) ?_
          refine lv_icmp_eq (tgt := 61) hx hb dX4_makesSureSomewhere_56 (by decide) (fun c5 => ?_) (fun c5 => ?_)
          · have hf := (if_pos c5).symm.trans hf
            refine lv_iinc (v := (v3 + (1 : Int32))) (lv' := [(3, .int (v3 + (1 : Int32))), (0, .ref (oa (3, 0))), (1, .ref (oa (13, j1))), (2, .int v2)]) hx hb dX4_makesSureSomewhere_61 hl (k := 3) rfl rfl (by decide) rfl (fun ls hl => ?_)
            refine lv_goto (tgt := 13) hx hb dX4_makesSureSomewhere_64 (by decide) ?_
            obtain rfl := Option.some.inj hf
            exact Kl1 _ rfl _ _ _ hW (lv_sub hl [1, 2, 3, 0] rfl)
          · have hf := (if_neg c5).symm.trans hf
            obtain ⟨x9006, hf, hx9006⟩ := map_of hf
            have e9006 := (Kr1 _ hx9006.symm).symm
            subst e9006
            refine lv_iconst (v := 1) hx hb dX4_makesSureSomewhere_59 (by decide) ?_
            obtain rfl := Option.some.inj hf
            rw [hQ]
            exact r_zret C hr hk hW (Or.inr rfl) rfl rfl dX4_makesSureSomewhere_60
  exact L13 x8 (0 : Int32) _ _ _ hf hW (lv_sub hl [1, 2, 3, 0] rfl)
set_option maxHeartbeats 4000000 in
set_option maxRecDepth 100000 in
theorem c_X4_whoNeverGivesAway {l : Launch} {D : va_G} {tc : Nat → ClassId} {ro : Ro} {oa : Ky → Nat} {aa : Nat → Nat} {sh : Sh} {ln : Nat → Nat} {j1 : Nat} {μ : Mm} {v2 : Int32} {res : Int32 × Mm} (hwf : WfS sh) (hj1 : sh 2 j1 = 1) (hf : f_X4_whoNeverGivesAway sh ln j1 μ v2 = some res) : Ct l D tc ro (faB oa aa sh) (feB tc oa aa sh ln) yX4_whoNeverGivesAway cX4_whoNeverGivesAway 5 (some .int) (rmq 6 142) [.ref (oa (3, 0)), .ref (oa (13, j1)), .int v2] μ (some (.int res.1)) res.2 := by
  refine Ct.of (by decide) (Nat.le_of_ble_eq_true rfl) (fun p e s m args below meth c A C hr hk hW ls hl => ?_)
  have hx := C.1.1
  have hb := C.1.2.1
  obtain ⟨Q, hQ⟩ : ∃ Q, Q = MQ below (Ctq D (faB oa aa sh) (feB tc oa aa sh ln) (some (.int res.1)) res.2 A) args s 0 0 A := ⟨_, rfl⟩
  rw [← hQ]
  have hl : lv_has ls 5 [(0, .ref (oa (3, 0))), (1, .ref (oa (13, j1))), (2, .int v2)] := hl
  unfold f_X4_whoNeverGivesAway at hf
  refine lv_iconst (v := 0) hx hb dX4_whoNeverGivesAway_0 (by decide) ?_
  refine lv_istore_n (lv' := [(3, .int (0 : Int32)), (0, .ref (oa (3, 0))), (1, .ref (oa (13, j1))), (2, .int v2)]) hx hb dX4_whoNeverGivesAway_1 rfl hl (by decide) rfl (fun ls hl => ?_)
  refine lv_iconst (v := 0) hx hb dX4_whoNeverGivesAway_2 (by decide) ?_
  refine lv_istore (lv' := [(4, .int (0 : Int32)), (3, .int (0 : Int32)), (0, .ref (oa (3, 0))), (1, .ref (oa (13, j1))), (2, .int v2)]) hx hb dX4_whoNeverGivesAway_3 hl (by decide) rfl (fun ls hl => ?_)
  have L5 : ∀ (μ : Mm) (v3 v4 : Int32) (H : Heap) (locs : List Loc) (ls : Array Slot), Wh (fun z : Mm × Int32 × Int32 => f_X4_whoNeverGivesAway_L5 sh ln j1 v2 z.1 z.2.1 z.2.2) (μ, v3, v4) = some res → Wd D (faB oa aa sh) (feB tc oa aa sh ln) A s.heap μ H locs → lv_has ls 5 [(0, .ref (oa (3, 0))), (1, .ref (oa (13, j1))), (2, .int v2), (3, .int v3), (4, .int v4)] → W p l e (rmq 6 142) s m args below meth c H locs 0 0 Q (F0 m 5 ls []) := by
    intro μ v3 v4 H locs ls hf hW hl
    refine Wh_rule hf (fun z : Mm × Int32 × Int32 => ∀ (H : Heap) (locs : List Loc) (ls : Array Slot), Wd D (faB oa aa sh) (feB tc oa aa sh ln) A s.heap z.1 H locs → lv_has ls 5 [(0, .ref (oa (3, 0))), (1, .ref (oa (13, j1))), (2, .int v2), (3, .int z.2.1), (4, .int z.2.2)] → W p l e (rmq 6 142) s m args below meth c H locs 0 0 Q (F0 m 5 ls [])) (fun z o1 hf Kl1 Kr1 => ?_) _ _ _ hW hl
    obtain ⟨μ, v3, v4⟩ := z
    intro H locs ls hW hl
    have hf : f_X4_whoNeverGivesAway_L5 sh ln j1 v2 μ v3 v4 = some o1 := hf
    unfold f_X4_whoNeverGivesAway_L5 at hf
    have hW : Wd D (faB oa aa sh) (feB tc oa aa sh ln) A s.heap μ H locs := hW
    have hl : lv_has ls 5 [(0, .ref (oa (3, 0))), (1, .ref (oa (13, j1))), (2, .int v2), (3, .int v3), (4, .int v4)] := hl
    refine lv_iload hx hb dX4_whoNeverGivesAway_5 (lv_at hl 4 rfl) ?_
    refine lv_aload_n hx hb dX4_whoNeverGivesAway_7 rfl (lv_at hl 1 rfl) ?_
    refine gf_X4_78 C hW hj1 dX4_whoNeverGivesAway_8 ?_
    refine lv_icmp_ge (tgt := 60) hx hb dX4_whoNeverGivesAway_11 (by decide) (fun c1 => ?_) (fun c1 => ?_)
    · have hf := (if_pos c1).symm.trans hf
      obtain ⟨x9002, hf, hx9002⟩ := map_of hf
      have e9002 := (Kr1 _ hx9002.symm).symm
      subst e9002
      refine lv_iload_n hx hb dX4_whoNeverGivesAway_60 rfl (lv_at hl 3 rfl) ?_
      obtain rfl := Option.some.inj hf
      rw [hQ]
      exact r_iret C hr hk hW rfl rfl dX4_whoNeverGivesAway_61
    · have hf := (if_neg c1).symm.trans hf
      refine lv_iload hx hb dX4_whoNeverGivesAway_14 (lv_at hl 4 rfl) ?_
      refine lv_iload_n hx hb dX4_whoNeverGivesAway_16 rfl (lv_at hl 2 rfl) ?_
      refine lv_icmp_eq (tgt := 54) hx hb dX4_whoNeverGivesAway_17 (by decide) (fun c3 => ?_) (fun c3 => ?_)
      · have hf := (if_pos c3).symm.trans hf
        refine lv_iinc (v := (v4 + (1 : Int32))) (lv' := [(4, .int (v4 + (1 : Int32))), (0, .ref (oa (3, 0))), (1, .ref (oa (13, j1))), (2, .int v2), (3, .int v3)]) hx hb dX4_whoNeverGivesAway_54 hl (k := 4) rfl rfl (by decide) rfl (fun ls hl => ?_)
        refine lv_goto (tgt := 5) hx hb dX4_whoNeverGivesAway_57 (by decide) ?_
        obtain rfl := Option.some.inj hf
        exact Kl1 _ rfl _ _ _ hW (lv_sub hl [1, 2, 3, 4, 0] rfl)
      · have hf := (if_neg c3).symm.trans hf
        refine lv_aload_n hx hb dX4_whoNeverGivesAway_20 rfl (lv_at hl 1 rfl) ?_
        refine lv_iload hx hb dX4_whoNeverGivesAway_21 (lv_at hl 4 rfl) ?_
        refine lv_iload_n hx hb dX4_whoNeverGivesAway_23 rfl (lv_at hl 2 rfl) ?_
        obtain ⟨x24, h24, hf⟩ := bd_of hf
        refine r_callV (k := ((13, j1) : Ky)) C hW hl lk_X4_151 (c_X6_hasSight hwf hj1 h24) ⟨rfl, rfl⟩ ⟨Nat.le_of_ble_eq_true rfl, Nat.le_of_ble_eq_true rfl⟩ rfl (faB_13 hj1) rfl (As := [.int v4, .int v2]) (rest := []) rfl rfl (Nat.le_of_ble_eq_true rfl) dX4_whoNeverGivesAway_24 ⟨Nat.zero_le _, Nat.zero_le _⟩ (fun H locs hW => ?_)
        show W p l e (rmq 6 142) s m args below meth c H locs 0 0 Q (F0 m 27 ls [.int x24])
        refine lv_if_eq (tgt := 54) hx hb dX4_whoNeverGivesAway_27 (by decide) (fun c4 => ?_) (fun c4 => ?_)
        · have hf := (if_pos c4).symm.trans hf
          refine lv_iinc (v := (v4 + (1 : Int32))) (lv' := [(4, .int (v4 + (1 : Int32))), (0, .ref (oa (3, 0))), (1, .ref (oa (13, j1))), (2, .int v2), (3, .int v3)]) hx hb dX4_whoNeverGivesAway_54 hl (k := 4) rfl rfl (by decide) rfl (fun ls hl => ?_)
          refine lv_goto (tgt := 5) hx hb dX4_whoNeverGivesAway_57 (by decide) ?_
          obtain rfl := Option.some.inj hf
          exact Kl1 _ rfl _ _ _ hW (lv_sub hl [1, 2, 3, 4, 0] rfl)
        · have hf := (if_neg c4).symm.trans hf
          refine lv_aload_n hx hb dX4_whoNeverGivesAway_30 rfl (lv_at hl 0 rfl) ?_
          refine lv_aload_n hx hb dX4_whoNeverGivesAway_31 rfl (lv_at hl 1 rfl) ?_
          refine lv_iload hx hb dX4_whoNeverGivesAway_32 (lv_at hl 4 rfl) ?_
          refine lv_iload_n hx hb dX4_whoNeverGivesAway_34 rfl (lv_at hl 2 rfl) ?_
          obtain ⟨x35, h35, hf⟩ := bd_of hf
          refine r_callV (k := ((3, 0) : Ky)) C hW hl lk_X4_175 (c_X4_weigh hwf hj1 h35) ⟨rfl, rfl⟩ ⟨Nat.le_of_ble_eq_true rfl, Nat.le_of_ble_eq_true rfl⟩ rfl rfl rfl (As := [.ref (oa (13, j1)), .int v4, .int v2]) (rest := []) rfl rfl (Nat.le_of_ble_eq_true rfl) dX4_whoNeverGivesAway_35 ⟨Nat.zero_le _, Nat.zero_le _⟩ (fun H locs hW => ?_)
          show W p l e (rmq 6 142) s m args below meth c H locs 0 0 Q (F0 m 38 ls [])
          refine lv_aload_n hx hb dX4_whoNeverGivesAway_38 rfl (lv_at hl 0 rfl) ?_
          refine lv_aload_n hx hb dX4_whoNeverGivesAway_39 rfl (lv_at hl 1 rfl) ?_
          refine lv_iload_n hx hb dX4_whoNeverGivesAway_40 rfl (lv_at hl 2 rfl) ?_
          obtain ⟨x41, h41, hf⟩ := bd_of hf
          refine r_callV (k := ((3, 0) : Ky)) C hW hl lk_X4_182 (c_X4_makesSureSomewhere hwf hj1 h41) ⟨rfl, rfl⟩ ⟨Nat.le_of_ble_eq_true rfl, Nat.le_of_ble_eq_true rfl⟩ rfl rfl rfl (As := [.ref (oa (13, j1)), .int v2]) (rest := []) rfl rfl (Nat.le_of_ble_eq_true rfl) dX4_whoNeverGivesAway_41 ⟨Nat.zero_le _, Nat.zero_le _⟩ (fun H locs hW => ?_)
          show W p l e (rmq 6 142) s m args below meth c H locs 0 0 Q (F0 m 44 ls [.int x41.1])
          refine lv_if_ne (tgt := 54) hx hb dX4_whoNeverGivesAway_44 (by decide) (fun c5 => ?_) (fun c5 => ?_)
          · have hf := (if_neg c5).symm.trans hf
            refine lv_iinc (v := (v4 + (1 : Int32))) (lv' := [(4, .int (v4 + (1 : Int32))), (0, .ref (oa (3, 0))), (1, .ref (oa (13, j1))), (2, .int v2), (3, .int v3)]) hx hb dX4_whoNeverGivesAway_54 hl (k := 4) rfl rfl (by decide) rfl (fun ls hl => ?_)
            refine lv_goto (tgt := 5) hx hb dX4_whoNeverGivesAway_57 (by decide) ?_
            obtain rfl := Option.some.inj hf
            exact Kl1 _ rfl _ _ _ hW (lv_sub hl [1, 2, 3, 4, 0] rfl)
          · have hf := (if_pos c5).symm.trans hf
            refine lv_iload_n hx hb dX4_whoNeverGivesAway_47 rfl (lv_at hl 3 rfl) ?_
            refine lv_iconst (v := 1) hx hb dX4_whoNeverGivesAway_48 (by decide) ?_
            refine lv_iload hx hb dX4_whoNeverGivesAway_49 (lv_at hl 4 rfl) ?_
            refine lv_ishl hx hb dX4_whoNeverGivesAway_51 ?_
            refine lv_ior hx hb dX4_whoNeverGivesAway_52 ?_
            refine lv_istore_n (lv' := [(3, .int (v3 ||| ((1 : Int32) <<< (v4 &&& 31)))), (0, .ref (oa (3, 0))), (1, .ref (oa (13, j1))), (2, .int v2), (4, .int v4)]) hx hb dX4_whoNeverGivesAway_53 rfl hl (by decide) rfl (fun ls hl => ?_)
            refine lv_iinc (v := (v4 + (1 : Int32))) (lv' := [(4, .int (v4 + (1 : Int32))), (3, .int (v3 ||| ((1 : Int32) <<< (v4 &&& 31)))), (0, .ref (oa (3, 0))), (1, .ref (oa (13, j1))), (2, .int v2)]) hx hb dX4_whoNeverGivesAway_54 hl (k := 4) rfl rfl (by decide) rfl (fun ls hl => ?_)
            refine lv_goto (tgt := 5) hx hb dX4_whoNeverGivesAway_57 (by decide) ?_
            obtain rfl := Option.some.inj hf
            exact Kl1 _ rfl _ _ _ hW (lv_sub hl [2, 3, 4, 1, 0] rfl)
  exact L5 μ (0 : Int32) (0 : Int32) _ _ _ hf hW (lv_sub hl [2, 3, 4, 1, 0] rfl)
set_option maxHeartbeats 4000000 in
set_option maxRecDepth 100000 in
theorem c_X4_tally {l : Launch} {D : va_G} {tc : Nat → ClassId} {ro : Ro} {oa : Ky → Nat} {aa : Nat → Nat} {sh : Sh} {ln : Nat → Nat} {j1 : Nat} {μ : Mm} {v2 : Int32} {res : Mm} (hwf : WfS sh) (hj1 : sh 2 j1 = 1) (hf : f_X4_tally sh ln j1 μ v2 = some res) : Ct l D tc ro (faB oa aa sh) (feB tc oa aa sh ln) yX4_tally cX4_tally 5 none (rmq 3 68) [.ref (oa (3, 0)), .ref (oa (13, j1)), .int v2] μ none res := by
  refine Ct.of (by decide) (Nat.le_of_ble_eq_true rfl) (fun p e s m args below meth c A C hr hk hW ls hl => ?_)
  have hx := C.1.1
  have hb := C.1.2.1
  obtain ⟨Q, hQ⟩ : ∃ Q, Q = MQ below (Ctq D (faB oa aa sh) (feB tc oa aa sh ln) none res A) args s 0 0 A := ⟨_, rfl⟩
  rw [← hQ]
  have hl : lv_has ls 5 [(0, .ref (oa (3, 0))), (1, .ref (oa (13, j1))), (2, .int v2)] := hl
  unfold f_X4_tally at hf
  refine lv_aload_n hx hb dX4_tally_0 rfl (lv_at hl 0 rfl) ?_
  refine gf_X4_18 C hW dX4_tally_1 ?_
  refine lv_iconst (v := 0) hx hb dX4_tally_4 (by decide) ?_
  refine lv_aload_n hx hb dX4_tally_5 rfl (lv_at hl 1 rfl) ?_
  refine gf_X4_52 C hW hj1 dX4_tally_6 ?_
  refine lv_bipush (v := 8) hx hb dX4_tally_9 (by decide) ?_
  refine lv_imul hx hb dX4_tally_11 ?_
  obtain ⟨x12, h12, hf⟩ := bd_of hf
  refine r_callV (k := ((11, 1) : Ky)) C hW hl lk_X4_103 (c_X1_fill hwf rfl h12) ⟨rfl, rfl⟩ ⟨Nat.le_of_ble_eq_true rfl, Nat.le_of_ble_eq_true rfl⟩ rfl (faB_11 rfl) rfl (As := [.int (0 : Int32), .int ((μ (13, j1) 2) * (8 : Int32))]) (rest := []) rfl rfl (Nat.le_of_ble_eq_true rfl) dX4_tally_12 ⟨Nat.zero_le _, Nat.zero_le _⟩ (fun H locs hW => ?_)
  show W p l e (rmq 3 68) s m args below meth c H locs 0 0 Q (F0 m 15 ls [])
  refine lv_iconst (v := 0) hx hb dX4_tally_15 (by decide) ?_
  refine lv_istore_n (lv' := [(3, .int (0 : Int32)), (0, .ref (oa (3, 0))), (1, .ref (oa (13, j1))), (2, .int v2)]) hx hb dX4_tally_16 rfl hl (by decide) rfl (fun ls hl => ?_)
  have L17 : ∀ (μ : Mm) (v3 : Int32) (H : Heap) (locs : List Loc) (ls : Array Slot), Wh (fun z : Mm × Int32 => f_X4_tally_L17 sh ln j1 v2 z.1 z.2) (μ, v3) = some res → Wd D (faB oa aa sh) (feB tc oa aa sh ln) A s.heap μ H locs → lv_has ls 5 [(0, .ref (oa (3, 0))), (1, .ref (oa (13, j1))), (2, .int v2), (3, .int v3)] → W p l e (rmq 3 68) s m args below meth c H locs 0 0 Q (F0 m 17 ls []) := by
    intro μ v3 H locs ls hf hW hl
    refine Wh_rule hf (fun z : Mm × Int32 => ∀ (H : Heap) (locs : List Loc) (ls : Array Slot), Wd D (faB oa aa sh) (feB tc oa aa sh ln) A s.heap z.1 H locs → lv_has ls 5 [(0, .ref (oa (3, 0))), (1, .ref (oa (13, j1))), (2, .int v2), (3, .int z.2)] → W p l e (rmq 3 68) s m args below meth c H locs 0 0 Q (F0 m 17 ls [])) (fun z o1 hf Kl1 Kr1 => ?_) _ _ _ hW hl
    obtain ⟨μ, v3⟩ := z
    intro H locs ls hW hl
    have hf : f_X4_tally_L17 sh ln j1 v2 μ v3 = some o1 := hf
    unfold f_X4_tally_L17 at hf
    have hW : Wd D (faB oa aa sh) (feB tc oa aa sh ln) A s.heap μ H locs := hW
    have hl : lv_has ls 5 [(0, .ref (oa (3, 0))), (1, .ref (oa (13, j1))), (2, .int v2), (3, .int v3)] := hl
    refine lv_iload_n hx hb dX4_tally_17 rfl (lv_at hl 3 rfl) ?_
    refine lv_aload_n hx hb dX4_tally_18 rfl (lv_at hl 1 rfl) ?_
    refine gf_X4_52 C hW hj1 dX4_tally_19 ?_
    refine lv_icmp_ge (tgt := 77) hx hb dX4_tally_22 (by decide) (fun c1 => ?_) (fun c1 => ?_)
    · have hf := (if_pos c1).symm.trans hf
      obtain ⟨x9002, hf, hx9002⟩ := map_of hf
      have e9002 := (Kr1 _ hx9002.symm).symm
      subst e9002
      obtain rfl := Option.some.inj hf
      rw [hQ]
      exact r_vret C hr hk hW rfl rfl dX4_tally_77
    · have hf := (if_neg c1).symm.trans hf
      refine lv_aload_n hx hb dX4_tally_25 rfl (lv_at hl 1 rfl) ?_
      refine lv_iload_n hx hb dX4_tally_26 rfl (lv_at hl 3 rfl) ?_
      obtain ⟨x27, h27, hf⟩ := bd_of hf
      refine r_callV (k := ((13, j1) : Ky)) C hW hl lk_X4_87 (c_X6_stands hwf hj1 h27) ⟨rfl, rfl⟩ ⟨Nat.le_of_ble_eq_true rfl, Nat.le_of_ble_eq_true rfl⟩ rfl (faB_13 hj1) rfl (As := [.int v3]) (rest := []) rfl rfl (Nat.le_of_ble_eq_true rfl) dX4_tally_27 ⟨Nat.zero_le _, Nat.zero_le _⟩ (fun H locs hW => ?_)
      show W p l e (rmq 3 68) s m args below meth c H locs 0 0 Q (F0 m 30 ls [.int x27])
      refine lv_if_eq (tgt := 71) hx hb dX4_tally_30 (by decide) (fun c3 => ?_) (fun c3 => ?_)
      · have hf := (if_pos c3).symm.trans hf
        refine lv_iinc (v := (v3 + (1 : Int32))) (lv' := [(3, .int (v3 + (1 : Int32))), (0, .ref (oa (3, 0))), (1, .ref (oa (13, j1))), (2, .int v2)]) hx hb dX4_tally_71 hl (k := 3) rfl rfl (by decide) rfl (fun ls hl => ?_)
        refine lv_goto (tgt := 17) hx hb dX4_tally_74 (by decide) ?_
        obtain rfl := Option.some.inj hf
        exact Kl1 _ rfl _ _ _ hW (lv_sub hl [1, 2, 3, 0] rfl)
      · have hf := (if_neg c3).symm.trans hf
        refine lv_aload_n hx hb dX4_tally_33 rfl (lv_at hl 1 rfl) ?_
        refine lv_iload_n hx hb dX4_tally_34 rfl (lv_at hl 2 rfl) ?_
        refine lv_iload_n hx hb dX4_tally_35 rfl (lv_at hl 3 rfl) ?_
        obtain ⟨x36, h36, hf⟩ := bd_of hf
        refine r_callV (k := ((13, j1) : Ky)) C hW hl lk_X4_48 (c_X6_group hwf hj1 h36) ⟨rfl, rfl⟩ ⟨Nat.le_of_ble_eq_true rfl, Nat.le_of_ble_eq_true rfl⟩ rfl (faB_13 hj1) rfl (As := [.int v2, .int v3]) (rest := []) rfl rfl (Nat.le_of_ble_eq_true rfl) dX4_tally_36 ⟨Nat.zero_le _, Nat.zero_le _⟩ (fun H locs hW => ?_)
        show W p l e (rmq 3 68) s m args below meth c H locs 0 0 Q (F0 m 39 ls [.int x36])
        refine lv_bipush (v := 8) hx hb dX4_tally_39 (by decide) ?_
        refine lv_imul hx hb dX4_tally_41 ?_
        refine lv_aload_n hx hb dX4_tally_42 rfl (lv_at hl 1 rfl) ?_
        refine lv_iload_n hx hb dX4_tally_43 rfl (lv_at hl 3 rfl) ?_
        refine lv_iload_n hx hb dX4_tally_44 rfl (lv_at hl 2 rfl) ?_
        obtain ⟨x45, h45, hf⟩ := bd_of hf
        refine r_callV (k := ((13, j1) : Ky)) C hW hl lk_X4_60 (c_X6_figure hwf hj1 h45) ⟨rfl, rfl⟩ ⟨Nat.le_of_ble_eq_true rfl, Nat.le_of_ble_eq_true rfl⟩ rfl (faB_13 hj1) rfl (As := [.int v3, .int v2]) (rest := [.int (x36 * (8 : Int32))]) rfl rfl (Nat.le_of_ble_eq_true rfl) dX4_tally_45 ⟨Nat.zero_le _, Nat.zero_le _⟩ (fun H locs hW => ?_)
        show W p l e (rmq 3 68) s m args below meth c H locs 0 0 Q (F0 m 48 ls [.int x45, .int (x36 * (8 : Int32))])
        refine lv_iadd hx hb dX4_tally_48 ?_
        refine lv_istore (lv' := [(4, .int ((x36 * (8 : Int32)) + x45)), (0, .ref (oa (3, 0))), (1, .ref (oa (13, j1))), (2, .int v2), (3, .int v3)]) hx hb dX4_tally_49 hl (by decide) rfl (fun ls hl => ?_)
        refine lv_aload_n hx hb dX4_tally_51 rfl (lv_at hl 1 rfl) ?_
        refine gf_X4_18 C hW dX4_tally_52 ?_
        refine lv_iload hx hb dX4_tally_55 (lv_at hl 0 rfl) ?_
        refine lv_aload_n hx hb dX4_tally_57 rfl (lv_at hl 1 rfl) ?_
        refine gf_X4_18 C hW dX4_tally_58 ?_
        refine lv_iload hx hb dX4_tally_61 (lv_at hl 0 rfl) ?_
        obtain ⟨x63, h63, hf⟩ := bd_of hf
        refine r_callV (k := ((11, 1) : Ky)) C hW hl lk_X4_56 (c_X1_at hwf rfl h63) ⟨rfl, rfl⟩ ⟨Nat.le_of_ble_eq_true rfl, Nat.le_of_ble_eq_true rfl⟩ rfl (faB_11 rfl) rfl (As := [.int ((x36 * (8 : Int32)) + x45)]) (rest := [.int ((x36 * (8 : Int32)) + x45), .ref (oa (11, 1))]) rfl rfl (Nat.le_of_ble_eq_true rfl) dX4_tally_63 ⟨Nat.zero_le _, Nat.zero_le _⟩ (fun H locs hW => ?_)
        show W p l e (rmq 3 68) s m args below meth c H locs 0 0 Q (F0 m 66 ls [.int x63, .int ((x36 * (8 : Int32)) + x45), .ref (oa (11, 1))])
        refine lv_iconst (v := 1) hx hb dX4_tally_66 (by decide) ?_
        refine lv_iadd hx hb dX4_tally_67 ?_
        obtain ⟨x68, h68, hf⟩ := bd_of hf
        refine r_callV (k := ((11, 1) : Ky)) C hW hl lk_X4_110 (c_X1_put hwf rfl h68) ⟨rfl, rfl⟩ ⟨Nat.le_of_ble_eq_true rfl, Nat.le_of_ble_eq_true rfl⟩ rfl (faB_11 rfl) rfl (As := [.int ((x36 * (8 : Int32)) + x45), .int (x63 + (1 : Int32))]) (rest := []) rfl rfl (Nat.le_of_ble_eq_true rfl) dX4_tally_68 ⟨Nat.zero_le _, Nat.zero_le _⟩ (fun H locs hW => ?_)
        show W p l e (rmq 3 68) s m args below meth c H locs 0 0 Q (F0 m 71 ls [])
        refine lv_iinc (v := (v3 + (1 : Int32))) (lv' := [(3, .int (v3 + (1 : Int32))), (4, .int ((x36 * (8 : Int32)) + x45)), (0, .ref (oa (3, 0))), (1, .ref (oa (13, j1))), (2, .int v2)]) hx hb dX4_tally_71 hl (k := 4) rfl rfl (by decide) rfl (fun ls hl => ?_)
        refine lv_goto (tgt := 17) hx hb dX4_tally_74 (by decide) ?_
        obtain rfl := Option.some.inj hf
        exact Kl1 _ rfl _ _ _ hW (lv_sub hl [2, 3, 4, 0] rfl)
  exact L17 x12 (0 : Int32) _ _ _ hf hW (lv_sub hl [1, 2, 3, 0] rfl)
