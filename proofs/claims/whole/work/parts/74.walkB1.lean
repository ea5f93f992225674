set_option maxHeartbeats 4000000 in
set_option maxRecDepth 100000 in
theorem c_X7_cut {l : Launch} {D : va_G} {tc : Nat → ClassId} {ro : Ro} {oa : Ky → Nat} {aa : Nat → Nat} {sh : Sh} {ln : Nat → Nat} {μ : Mm} {v1 : Int32} {res : Int32 × Mm} (hwf : WfS sh) (hf : f_X7_cut sh ln μ v1 = some res) : Ct l D tc ro (faB oa aa sh) (feB tc oa aa sh ln) yX7_cut cX7_cut 2 (some .boolean) (rmq 0 0) [.ref (oa (2, 0)), .int v1] μ (some (.int res.1)) res.2 := by
  refine Ct.of (by decide) (Nat.le_of_ble_eq_true rfl) (fun p e s m args below meth c A C hr hk hW ls hl => ?_)
  have hx := C.1.1
  have hb := C.1.2.1
  obtain ⟨Q, hQ⟩ : ∃ Q, Q = MQ below (Ctq D (faB oa aa sh) (feB tc oa aa sh ln) (some (.int res.1)) res.2 A) args s 0 0 A := ⟨_, rfl⟩
  rw [← hQ]
  have hl : lv_has ls 2 [(0, .ref (oa (2, 0))), (1, .int v1)] := hl
  unfold f_X7_cut at hf
  refine lv_iload_n hx hb dX7_cut_0 rfl (lv_at hl 1 rfl) ?_
  refine lv_if_lt (tgt := 12) hx hb dX7_cut_1 (by decide) (fun c1 => ?_) (fun c1 => ?_)
  · have hf := (if_pos c1).symm.trans hf
    refine lv_iconst (v := 0) hx hb dX7_cut_12 (by decide) ?_
    obtain rfl := Option.some.inj hf
    rw [hQ]
    exact r_zret C hr hk hW (Or.inl rfl) rfl rfl dX7_cut_13
  · have hf := (if_neg c1).symm.trans hf
    refine lv_iload_n hx hb dX7_cut_4 rfl (lv_at hl 1 rfl) ?_
    refine lv_aload_n hx hb dX7_cut_5 rfl (lv_at hl 0 rfl) ?_
    refine gf_X7_18 C hW dX7_cut_6 ?_
    refine lv_icmp_le (tgt := 14) hx hb dX7_cut_9 (by decide) (fun c2 => ?_) (fun c2 => ?_)
    · have hf := (if_pos c2).symm.trans hf
      refine lv_aload_n hx hb dX7_cut_14 rfl (lv_at hl 0 rfl) ?_
      refine lv_iload_n hx hb dX7_cut_15 rfl (lv_at hl 1 rfl) ?_
      refine pf_X7_18 C hW dX7_cut_16 (fun H locs hW => ?_)
      refine lv_iconst (v := 1) hx hb dX7_cut_19 (by decide) ?_
      obtain rfl := Option.some.inj hf
      rw [hQ]
      exact r_zret C hr hk hW (Or.inr rfl) rfl rfl dX7_cut_20
    · have hf := (if_neg c2).symm.trans hf
      refine lv_iconst (v := 0) hx hb dX7_cut_12 (by decide) ?_
      obtain rfl := Option.some.inj hf
      rw [hQ]
      exact r_zret C hr hk hW (Or.inl rfl) rfl rfl dX7_cut_13
set_option maxHeartbeats 4000000 in
set_option maxRecDepth 100000 in
theorem c_X7_use {l : Launch} {D : va_G} {tc : Nat → ClassId} {ro : Ro} {oa : Ky → Nat} {aa : Nat → Nat} {sh : Sh} {ln : Nat → Nat} {μ : Mm} {res : Int32 × Mm} (hwf : WfS sh) (hf : f_X7_use sh ln μ = some res) : Ct l D tc ro (faB oa aa sh) (feB tc oa aa sh ln) yX7_use cX7_use 2 (some .int) (rmq 0 0) [.ref (oa (2, 0))] μ (some (.int res.1)) res.2 := by
  refine Ct.of (by decide) (Nat.le_of_ble_eq_true rfl) (fun p e s m args below meth c A C hr hk hW ls hl => ?_)
  have hx := C.1.1
  have hb := C.1.2.1
  obtain ⟨Q, hQ⟩ : ∃ Q, Q = MQ below (Ctq D (faB oa aa sh) (feB tc oa aa sh ln) (some (.int res.1)) res.2 A) args s 0 0 A := ⟨_, rfl⟩
  rw [← hQ]
  have hl : lv_has ls 2 [(0, .ref (oa (2, 0)))] := hl
  unfold f_X7_use at hf
  refine lv_aload_n hx hb dX7_use_0 rfl (lv_at hl 0 rfl) ?_
  refine gf_X7_18 C hW dX7_use_1 ?_
  refine lv_istore_n (lv' := [(1, .int (μ (2, 0) 1)), (0, .ref (oa (2, 0)))]) hx hb dX7_use_4 rfl hl (by decide) rfl (fun ls hl => ?_)
  refine lv_aload_n hx hb dX7_use_5 rfl (lv_at hl 1 rfl) ?_
  refine lv_iconst (v := 0) hx hb dX7_use_6 (by decide) ?_
  refine pf_X7_18 C hW dX7_use_7 (fun H locs hW => ?_)
  refine lv_iload_n hx hb dX7_use_10 rfl (lv_at hl 0 rfl) ?_
  obtain rfl := Option.some.inj hf
  rw [hQ]
  exact r_iret C hr hk hW rfl rfl dX7_use_11
set_option maxHeartbeats 4000000 in
set_option maxRecDepth 100000 in
theorem c_X7_byteAt {l : Launch} {D : va_G} {tc : Nat → ClassId} {ro : Ro} {oa : Ky → Nat} {aa : Nat → Nat} {sh : Sh} {ln : Nat → Nat} {μ : Mm} {v1 : Int32} {res : Int32} (hwf : WfS sh) (hf : f_X7_byteAt sh ln μ v1 = some res) : Ct l D tc ro (faB oa aa sh) (feB tc oa aa sh ln) yX7_byteAt cX7_byteAt 2 (some .int) (rmq 1 21) [.ref (oa (2, 0)), .int v1] μ (some (.int res)) μ := by
  refine Ct.of (by decide) (Nat.le_of_ble_eq_true rfl) (fun p e s m args below meth c A C hr hk hW ls hl => ?_)
  have hx := C.1.1
  have hb := C.1.2.1
  obtain ⟨Q, hQ⟩ : ∃ Q, Q = MQ below (Ctq D (faB oa aa sh) (feB tc oa aa sh ln) (some (.int res)) μ A) args s 0 0 A := ⟨_, rfl⟩
  rw [← hQ]
  have hl : lv_has ls 2 [(0, .ref (oa (2, 0))), (1, .int v1)] := hl
  unfold f_X7_byteAt at hf
  refine lv_aload_n hx hb dX7_byteAt_0 rfl (lv_at hl 0 rfl) ?_
  refine gf_X7_14 C hW dX7_byteAt_1 ?_
  refine lv_iload_n hx hb dX7_byteAt_4 rfl (lv_at hl 1 rfl) ?_
  obtain ⟨x5, h5, hf⟩ := bd_of hf
  refine r_callV (k := ((11, 0) : Ky)) C hW hl lk_X7_26 (c_X1_at hwf rfl h5) ⟨rfl, rfl⟩ ⟨Nat.le_of_ble_eq_true rfl, Nat.le_of_ble_eq_true rfl⟩ rfl (faB_11 rfl) rfl (As := [.int v1]) (rest := []) rfl rfl (Nat.le_of_ble_eq_true rfl) dX7_byteAt_5 ⟨Nat.zero_le _, Nat.zero_le _⟩ (fun H locs hW => ?_)
  show W p l e (rmq 1 21) s m args below meth c H locs 0 0 Q (F0 m 8 ls [.int x5])
  obtain rfl := Option.some.inj hf
  rw [hQ]
  exact r_iret C hr hk hW rfl rfl dX7_byteAt_8
set_option maxHeartbeats 4000000 in
set_option maxRecDepth 100000 in
theorem c_X4_possibleBits {l : Launch} {D : va_G} {tc : Nat → ClassId} {ro : Ro} {oa : Ky → Nat} {aa : Nat → Nat} {sh : Sh} {ln : Nat → Nat} {j1 cl2 : Nat} {μ : Mm} {v3 v4 v5 : Int32} {res : Int32} (hwf : WfS sh) (hj1 : sh 2 j1 = 1) (hc2 : cex sh cl2 = true) (hf : f_X4_possibleBits sh ln j1 cl2 μ v3 v4 v5 = some res) : Ct l D tc ro (faB oa aa sh) (feB tc oa aa sh ln) yX4_possibleBits cX4_possibleBits 9 (some .int) (rmq 2 44) [.ref (oa (3, 0)), .ref (oa (13, j1)), .ref (oa (11, cl2)), .int v3, .int v4, .int v5] μ (some (.int res)) μ := by
  refine Ct.of (by decide) (Nat.le_of_ble_eq_true rfl) (fun p e s m args below meth c A C hr hk hW ls hl => ?_)
  have hx := C.1.1
  have hb := C.1.2.1
  obtain ⟨Q, hQ⟩ : ∃ Q, Q = MQ below (Ctq D (faB oa aa sh) (feB tc oa aa sh ln) (some (.int res)) μ A) args s 0 0 A := ⟨_, rfl⟩
  rw [← hQ]
  have hl : lv_has ls 9 [(0, .ref (oa (3, 0))), (1, .ref (oa (13, j1))), (2, .ref (oa (11, cl2))), (3, .int v3), (4, .int v4), (5, .int v5)] := hl
  unfold f_X4_possibleBits at hf
  refine lv_aload_n hx hb dX4_possibleBits_0 rfl (lv_at hl 1 rfl) ?_
  refine lv_iload_n hx hb dX4_possibleBits_1 rfl (lv_at hl 3 rfl) ?_
  refine lv_iload hx hb dX4_possibleBits_2 (lv_at hl 5 rfl) ?_
  obtain ⟨x4, h4, hf⟩ := bd_of hf
  refine r_callV (k := ((13, j1) : Ky)) C hW hl lk_X4_48 (c_X6_group hwf hj1 h4) ⟨rfl, rfl⟩ ⟨Nat.le_of_ble_eq_true rfl, Nat.le_of_ble_eq_true rfl⟩ rfl (faB_13 hj1) rfl (As := [.int v3, .int v5]) (rest := []) rfl rfl (Nat.le_of_ble_eq_true rfl) dX4_possibleBits_4 ⟨Nat.zero_le _, Nat.zero_le _⟩ (fun H locs hW => ?_)
  show W p l e (rmq 2 44) s m args below meth c H locs 0 0 Q (F0 m 7 ls [.int x4])
  refine lv_istore (lv' := [(6, .int x4), (0, .ref (oa (3, 0))), (1, .ref (oa (13, j1))), (2, .ref (oa (11, cl2))), (3, .int v3), (4, .int v4), (5, .int v5)]) hx hb dX4_possibleBits_7 hl (by decide) rfl (fun ls hl => ?_)
  refine lv_iconst (v := 0) hx hb dX4_possibleBits_9 (by decide) ?_
  refine lv_istore (lv' := [(7, .int (0 : Int32)), (6, .int x4), (0, .ref (oa (3, 0))), (1, .ref (oa (13, j1))), (2, .ref (oa (11, cl2))), (3, .int v3), (4, .int v4), (5, .int v5)]) hx hb dX4_possibleBits_10 hl (by decide) rfl (fun ls hl => ?_)
  refine lv_iconst (v := 0) hx hb dX4_possibleBits_12 (by decide) ?_
  refine lv_istore (lv' := [(8, .int (0 : Int32)), (7, .int (0 : Int32)), (6, .int x4), (0, .ref (oa (3, 0))), (1, .ref (oa (13, j1))), (2, .ref (oa (11, cl2))), (3, .int v3), (4, .int v4), (5, .int v5)]) hx hb dX4_possibleBits_13 hl (by decide) rfl (fun ls hl => ?_)
  have L15 : ∀ (v6 v7 v8 : Int32) (H : Heap) (locs : List Loc) (ls : Array Slot), Wh (fun z : Int32 × Int32 => f_X4_possibleBits_L15 sh ln j1 cl2 v3 v4 v6 μ z.1 z.2) (v7, v8) = some res → Wd D (faB oa aa sh) (feB tc oa aa sh ln) A s.heap μ H locs → lv_has ls 9 [(1, .ref (oa (13, j1))), (2, .ref (oa (11, cl2))), (3, .int v3), (4, .int v4), (6, .int v6), (7, .int v7), (8, .int v8)] → W p l e (rmq 2 44) s m args below meth c H locs 0 0 Q (F0 m 15 ls []) := by
    intro v6 v7 v8 H locs ls hf hW hl
    refine Wh_rule hf (fun z : Int32 × Int32 => ∀ (H : Heap) (locs : List Loc) (ls : Array Slot), Wd D (faB oa aa sh) (feB tc oa aa sh ln) A s.heap μ H locs → lv_has ls 9 [(1, .ref (oa (13, j1))), (2, .ref (oa (11, cl2))), (3, .int v3), (4, .int v4), (6, .int v6), (7, .int z.1), (8, .int z.2)] → W p l e (rmq 2 44) s m args below meth c H locs 0 0 Q (F0 m 15 ls [])) (fun z o1 hf Kl1 Kr1 => ?_) _ _ _ hW hl
    obtain ⟨v7, v8⟩ := z
    intro H locs ls hW hl
    have hf : f_X4_possibleBits_L15 sh ln j1 cl2 v3 v4 v6 μ v7 v8 = some o1 := hf
    unfold f_X4_possibleBits_L15 at hf
    have hW : Wd D (faB oa aa sh) (feB tc oa aa sh ln) A s.heap μ H locs := hW
    have hl : lv_has ls 9 [(1, .ref (oa (13, j1))), (2, .ref (oa (11, cl2))), (3, .int v3), (4, .int v4), (6, .int v6), (7, .int v7), (8, .int v8)] := hl
    refine lv_iload hx hb dX4_possibleBits_15 (lv_at hl 6 rfl) ?_
    refine lv_aload_n hx hb dX4_possibleBits_17 rfl (lv_at hl 0 rfl) ?_
    refine gf_X4_52 C hW hj1 dX4_possibleBits_18 ?_
    refine lv_icmp_ge (tgt := 67) hx hb dX4_possibleBits_21 (by decide) (fun c1 => ?_) (fun c1 => ?_)
    · have hf := (if_pos c1).symm.trans hf
      obtain ⟨x9002, hf, hx9002⟩ := map_of hf
      have e9002 := (Kr1 _ hx9002.symm).symm
      subst e9002
      refine lv_iload hx hb dX4_possibleBits_67 (lv_at hl 5 rfl) ?_
      obtain rfl := Option.some.inj hf
      rw [hQ]
      exact r_iret C hr hk hW rfl rfl dX4_possibleBits_69
    · have hf := (if_neg c1).symm.trans hf
      refine lv_aload_n hx hb dX4_possibleBits_24 rfl (lv_at hl 1 rfl) ?_
      refine lv_iload hx hb dX4_possibleBits_25 (lv_at hl 6 rfl) ?_
      obtain ⟨x27, h27, hf⟩ := bd_of hf
      refine r_callV (k := ((11, cl2) : Ky)) C hW hl lk_X4_56 (c_X1_at hwf hc2 h27) ⟨rfl, rfl⟩ ⟨Nat.le_of_ble_eq_true rfl, Nat.le_of_ble_eq_true rfl⟩ rfl (faB_11 hc2) rfl (As := [.int v8]) (rest := []) rfl rfl (Nat.le_of_ble_eq_true rfl) dX4_possibleBits_27 ⟨Nat.zero_le _, Nat.zero_le _⟩ (fun H locs hW => ?_)
      show W p l e (rmq 2 44) s m args below meth c H locs 0 0 Q (F0 m 30 ls [.int x27])
      refine lv_iconst (v := 1) hx hb dX4_possibleBits_30 (by decide) ?_
      refine lv_icmp_ne (tgt := 61) hx hb dX4_possibleBits_31 (by decide) (fun c3 => ?_) (fun c3 => ?_)
      · have hf := (if_neg c3).symm.trans hf
        refine lv_iinc (v := (v8 + (1 : Int32))) (lv' := [(8, .int (v8 + (1 : Int32))), (1, .ref (oa (13, j1))), (2, .ref (oa (11, cl2))), (3, .int v3), (4, .int v4), (6, .int v6), (7, .int v7)]) hx hb dX4_possibleBits_61 hl (k := 6) rfl rfl (by decide) rfl (fun ls hl => ?_)
        refine lv_goto (tgt := 15) hx hb dX4_possibleBits_64 (by decide) ?_
        obtain rfl := Option.some.inj hf
        exact Kl1 _ rfl _ _ _ hW (lv_sub hl [1, 2, 3, 4, 5, 6, 0] rfl)
      · have hf := (if_pos c3).symm.trans hf
        refine lv_aload_n hx hb dX4_possibleBits_34 rfl (lv_at hl 0 rfl) ?_
        refine lv_iload_n hx hb dX4_possibleBits_35 rfl (lv_at hl 2 rfl) ?_
        refine lv_iload hx hb dX4_possibleBits_36 (lv_at hl 6 rfl) ?_
        obtain ⟨x38, h38, hf⟩ := bd_of hf
        refine r_callV (k := ((13, j1) : Ky)) C hW hl lk_X4_48 (c_X6_group hwf hj1 h38) ⟨rfl, rfl⟩ ⟨Nat.le_of_ble_eq_true rfl, Nat.le_of_ble_eq_true rfl⟩ rfl (faB_13 hj1) rfl (As := [.int v3, .int v8]) (rest := []) rfl rfl (Nat.le_of_ble_eq_true rfl) dX4_possibleBits_38 ⟨Nat.zero_le _, Nat.zero_le _⟩ (fun H locs hW => ?_)
        show W p l e (rmq 2 44) s m args below meth c H locs 0 0 Q (F0 m 41 ls [.int x38])
        refine lv_iload hx hb dX4_possibleBits_41 (lv_at hl 4 rfl) ?_
        refine lv_icmp_ne (tgt := 61) hx hb dX4_possibleBits_43 (by decide) (fun c4 => ?_) (fun c4 => ?_)
        · have hf := (if_neg c4).symm.trans hf
          refine lv_iinc (v := (v8 + (1 : Int32))) (lv' := [(8, .int (v8 + (1 : Int32))), (1, .ref (oa (13, j1))), (2, .ref (oa (11, cl2))), (3, .int v3), (4, .int v4), (6, .int v6), (7, .int v7)]) hx hb dX4_possibleBits_61 hl (k := 6) rfl rfl (by decide) rfl (fun ls hl => ?_)
          refine lv_goto (tgt := 15) hx hb dX4_possibleBits_64 (by decide) ?_
          obtain rfl := Option.some.inj hf
          exact Kl1 _ rfl _ _ _ hW (lv_sub hl [1, 2, 3, 4, 5, 6, 0] rfl)
        · have hf := (if_pos c4).symm.trans hf
          refine lv_iload hx hb dX4_possibleBits_46 (lv_at hl 5 rfl) ?_
          refine lv_iconst (v := 1) hx hb dX4_possibleBits_48 (by decide) ?_
          refine lv_aload_n hx hb dX4_possibleBits_49 rfl (lv_at hl 0 rfl) ?_
          refine lv_iload hx hb dX4_possibleBits_50 (lv_at hl 6 rfl) ?_
          refine lv_iload hx hb dX4_possibleBits_52 (lv_at hl 3 rfl) ?_
          obtain ⟨x54, h54, hf⟩ := bd_of hf
          refine r_callV (k := ((13, j1) : Ky)) C hW hl lk_X4_60 (c_X6_figure hwf hj1 h54) ⟨rfl, rfl⟩ ⟨Nat.le_of_ble_eq_true rfl, Nat.le_of_ble_eq_true rfl⟩ rfl (faB_13 hj1) rfl (As := [.int v8, .int v4]) (rest := [.int (1 : Int32), .int v7]) rfl rfl (Nat.le_of_ble_eq_true rfl) dX4_possibleBits_54 ⟨Nat.zero_le _, Nat.zero_le _⟩ (fun H locs hW => ?_)
          show W p l e (rmq 2 44) s m args below meth c H locs 0 0 Q (F0 m 57 ls [.int x54, .int (1 : Int32), .int v7])
          refine lv_ishl hx hb dX4_possibleBits_57 ?_
          refine lv_ior hx hb dX4_possibleBits_58 ?_
          refine lv_istore (lv' := [(7, .int (v7 ||| ((1 : Int32) <<< (x54 &&& 31)))), (1, .ref (oa (13, j1))), (2, .ref (oa (11, cl2))), (3, .int v3), (4, .int v4), (6, .int v6), (8, .int v8)]) hx hb dX4_possibleBits_59 hl (by decide) rfl (fun ls hl => ?_)
          refine lv_iinc (v := (v8 + (1 : Int32))) (lv' := [(8, .int (v8 + (1 : Int32))), (7, .int (v7 ||| ((1 : Int32) <<< (x54 &&& 31)))), (1, .ref (oa (13, j1))), (2, .ref (oa (11, cl2))), (3, .int v3), (4, .int v4), (6, .int v6)]) hx hb dX4_possibleBits_61 hl (k := 6) rfl rfl (by decide) rfl (fun ls hl => ?_)
          refine lv_goto (tgt := 15) hx hb dX4_possibleBits_64 (by decide) ?_
          obtain rfl := Option.some.inj hf
          exact Kl1 _ rfl _ _ _ hW (lv_sub hl [2, 3, 4, 5, 6, 1, 0] rfl)
  exact L15 x4 (0 : Int32) (0 : Int32) _ _ _ hf hW (lv_sub hl [4, 5, 6, 7, 2, 1, 0] rfl)
set_option maxHeartbeats 4000000 in
set_option maxRecDepth 100000 in
theorem c_X4_onlyOne {l : Launch} {D : va_G} {tc : Nat → ClassId} {ro : Ro} {oa : Ky → Nat} {aa : Nat → Nat} {sh : Sh} {ln : Nat → Nat} {μ : Mm} {v1 : Int32} {res : Int32} (hf : f_X4_onlyOne v1 = some res) : Ct l D tc ro (faB oa aa sh) (feB tc oa aa sh ln) yX4_onlyOne cX4_onlyOne 2 (some .int) (rmq 1 21) [.ref (oa (3, 0)), .int v1] μ (some (.int res)) μ := by
  refine Ct.of (by decide) (Nat.le_of_ble_eq_true rfl) (fun p e s m args below meth c A C hr hk hW ls hl => ?_)
  have hx := C.1.1
  have hb := C.1.2.1
  obtain ⟨Q, hQ⟩ : ∃ Q, Q = MQ below (Ctq D (faB oa aa sh) (feB tc oa aa sh ln) (some (.int res)) μ A) args s 0 0 A := ⟨_, rfl⟩
  rw [← hQ]
  have hl : lv_has ls 2 [(0, .ref (oa (3, 0))), (1, .int v1)] := hl
  unfold f_X4_onlyOne at hf
  refine lv_iload_n hx hb dX4_onlyOne_0 rfl (lv_at hl 1 rfl) ?_
  obtain ⟨x1, h1, hf⟩ := bd_of hf
  refine r_callS C hW hl lk_X4_63 (c_J6_bitCount_0f7a4 h1) ⟨rfl, rfl⟩ ⟨Nat.le_of_ble_eq_true rfl, Nat.le_of_ble_eq_true rfl⟩ (As := [.int v1]) (rest := []) rfl rfl (Nat.le_of_ble_eq_true rfl) dX4_onlyOne_1 ⟨Nat.zero_le _, Nat.zero_le _⟩ (fun H locs hW => ?_)
  show W p l e (rmq 1 21) s m args below meth c H locs 0 0 Q (F0 m 4 ls [.int x1])
  refine lv_iconst (v := 1) hx hb dX4_onlyOne_4 (by decide) ?_
  refine lv_icmp_ne (tgt := 15) hx hb dX4_onlyOne_5 (by decide) (fun c1 => ?_) (fun c1 => ?_)
  · have hf := (if_neg c1).symm.trans hf
    refine lv_iconst (v := -1) hx hb dX4_onlyOne_15 (by decide) ?_
    obtain rfl := Option.some.inj hf
    rw [hQ]
    exact r_iret C hr hk hW rfl rfl dX4_onlyOne_16
  · have hf := (if_pos c1).symm.trans hf
    refine lv_iload_n hx hb dX4_onlyOne_8 rfl (lv_at hl 1 rfl) ?_
    obtain ⟨x9, h9, hf⟩ := bd_of hf
    refine r_callS C hW hl lk_X4_68 (c_J6_numberOfTrailingZeros_0f7a4 h9) ⟨rfl, rfl⟩ ⟨Nat.le_of_ble_eq_true rfl, Nat.le_of_ble_eq_true rfl⟩ (As := [.int v1]) (rest := []) rfl rfl (Nat.le_of_ble_eq_true rfl) dX4_onlyOne_9 ⟨Nat.zero_le _, Nat.zero_le _⟩ (fun H locs hW => ?_)
    show W p l e (rmq 1 21) s m args below meth c H locs 0 0 Q (F0 m 12 ls [.int x9])
    refine lv_goto (tgt := 16) hx hb dX4_onlyOne_12 (by decide) ?_
    obtain rfl := Option.some.inj hf
    rw [hQ]
    exact r_iret C hr hk hW rfl rfl dX4_onlyOne_16
set_option maxHeartbeats 4000000 in
set_option maxRecDepth 100000 in
theorem c_X4_isSure {l : Launch} {D : va_G} {tc : Nat → ClassId} {ro : Ro} {oa : Ky → Nat} {aa : Nat → Nat} {sh : Sh} {ln : Nat → Nat} {j1 cl2 : Nat} {μ : Mm} {v3 v4 : Int32} {res : Int32} (hwf : WfS sh) (hj1 : sh 2 j1 = 1) (hc2 : cex sh cl2 = true) (hf : f_X4_isSure sh ln j1 cl2 μ v3 v4 = some res) : Ct l D tc ro (faB oa aa sh) (feB tc oa aa sh ln) yX4_isSure cX4_isSure 5 (some .boolean) (rmq 3 72) [.ref (oa (3, 0)), .ref (oa (13, j1)), .ref (oa (11, cl2)), .int v3, .int v4] μ (some (.int res)) μ := by
  refine Ct.of (by decide) (Nat.le_of_ble_eq_true rfl) (fun p e s m args below meth c A C hr hk hW ls hl => ?_)
  have hx := C.1.1
  have hb := C.1.2.1
  obtain ⟨Q, hQ⟩ : ∃ Q, Q = MQ below (Ctq D (faB oa aa sh) (feB tc oa aa sh ln) (some (.int res)) μ A) args s 0 0 A := ⟨_, rfl⟩
  rw [← hQ]
  have hl : lv_has ls 5 [(0, .ref (oa (3, 0))), (1, .ref (oa (13, j1))), (2, .ref (oa (11, cl2))), (3, .int v3), (4, .int v4)] := hl
  unfold f_X4_isSure at hf
  refine lv_aload_n hx hb dX4_isSure_0 rfl (lv_at hl 0 rfl) ?_
  refine lv_aload_n hx hb dX4_isSure_1 rfl (lv_at hl 0 rfl) ?_
  refine lv_aload_n hx hb dX4_isSure_2 rfl (lv_at hl 1 rfl) ?_
  refine lv_aload_n hx hb dX4_isSure_3 rfl (lv_at hl 2 rfl) ?_
  refine lv_iload_n hx hb dX4_isSure_4 rfl (lv_at hl 3 rfl) ?_
  refine lv_iload_n hx hb dX4_isSure_5 rfl (lv_at hl 3 rfl) ?_
  refine lv_iload hx hb dX4_isSure_6 (lv_at hl 4 rfl) ?_
  obtain ⟨x8, h8, hf⟩ := bd_of hf
  refine r_callV (k := ((3, 0) : Ky)) C hW hl lk_X4_71 (c_X4_possibleBits hwf hj1 hc2 h8) ⟨rfl, rfl⟩ ⟨Nat.le_of_ble_eq_true rfl, Nat.le_of_ble_eq_true rfl⟩ rfl rfl rfl (As := [.ref (oa (13, j1)), .ref (oa (11, cl2)), .int v3, .int v3, .int v4]) (rest := [.ref (oa (3, 0))]) rfl rfl (Nat.le_of_ble_eq_true rfl) dX4_isSure_8 ⟨Nat.zero_le _, Nat.zero_le _⟩ (fun H locs hW => ?_)
  show W p l e (rmq 3 72) s m args below meth c H locs 0 0 Q (F0 m 11 ls [.int x8, .ref (oa (3, 0))])
  obtain ⟨x11, h11, hf⟩ := bd_of hf
  refine r_callV (k := ((3, 0) : Ky)) C hW hl lk_X4_75 (c_X4_onlyOne h11) ⟨rfl, rfl⟩ ⟨Nat.le_of_ble_eq_true rfl, Nat.le_of_ble_eq_true rfl⟩ rfl rfl rfl (As := [.int x8]) (rest := []) rfl rfl (Nat.le_of_ble_eq_true rfl) dX4_isSure_11 ⟨Nat.zero_le _, Nat.zero_le _⟩ (fun H locs hW => ?_)
  show W p l e (rmq 3 72) s m args below meth c H locs 0 0 Q (F0 m 14 ls [.int x11])
  refine lv_iconst (v := -1) hx hb dX4_isSure_14 (by decide) ?_
  refine lv_icmp_eq (tgt := 22) hx hb dX4_isSure_15 (by decide) (fun c1 => ?_) (fun c1 => ?_)
  · have hf := (if_pos c1).symm.trans hf
    refine lv_iconst (v := 0) hx hb dX4_isSure_22 (by decide) ?_
    obtain rfl := Option.some.inj hf
    rw [hQ]
    exact r_zret C hr hk hW (Or.inl rfl) rfl rfl dX4_isSure_23
  · have hf := (if_neg c1).symm.trans hf
    refine lv_iconst (v := 1) hx hb dX4_isSure_18 (by decide) ?_
    refine lv_goto (tgt := 23) hx hb dX4_isSure_19 (by decide) ?_
    obtain rfl := Option.some.inj hf
    rw [hQ]
    exact r_zret C hr hk hW (Or.inr rfl) rfl rfl dX4_isSure_23
set_option maxHeartbeats 4000000 in
set_option maxRecDepth 100000 in
theorem c_X4_sureBits {l : Launch} {D : va_G} {tc : Nat → ClassId} {ro : Ro} {oa : Ky → Nat} {aa : Nat → Nat} {sh : Sh} {ln : Nat → Nat} {j1 cl2 : Nat} {μ : Mm} {res : Int32} (hwf : WfS sh) (hj1 : sh 2 j1 = 1) (hc2 : cex sh cl2 = true) (hf : f_X4_sureBits sh ln j1 cl2 μ = some res) : Ct l D tc ro (faB oa aa sh) (feB tc oa aa sh ln) yX4_sureBits cX4_sureBits 5 (some .int) (rmq 3 72) [.ref (oa (3, 0)), .ref (oa (13, j1)), .ref (oa (11, cl2))] μ (some (.int res)) μ := by
  refine Ct.of (by decide) (Nat.le_of_ble_eq_true rfl) (fun p e s m args below meth c A C hr hk hW ls hl => ?_)
  have hx := C.1.1
  have hb := C.1.2.1
  obtain ⟨Q, hQ⟩ : ∃ Q, Q = MQ below (Ctq D (faB oa aa sh) (feB tc oa aa sh ln) (some (.int res)) μ A) args s 0 0 A := ⟨_, rfl⟩
  rw [← hQ]
  have hl : lv_has ls 5 [(0, .ref (oa (3, 0))), (1, .ref (oa (13, j1))), (2, .ref (oa (11, cl2)))] := hl
  unfold f_X4_sureBits at hf
  refine lv_iconst (v := 0) hx hb dX4_sureBits_0 (by decide) ?_
  refine lv_istore_n (lv' := [(3, .int (0 : Int32)), (0, .ref (oa (3, 0))), (1, .ref (oa (13, j1))), (2, .ref (oa (11, cl2)))]) hx hb dX4_sureBits_1 rfl hl (by decide) rfl (fun ls hl => ?_)
  refine lv_iconst (v := 0) hx hb dX4_sureBits_2 (by decide) ?_
  refine lv_istore (lv' := [(4, .int (0 : Int32)), (3, .int (0 : Int32)), (0, .ref (oa (3, 0))), (1, .ref (oa (13, j1))), (2, .ref (oa (11, cl2)))]) hx hb dX4_sureBits_3 hl (by decide) rfl (fun ls hl => ?_)
  have L5 : ∀ (v3 v4 : Int32) (H : Heap) (locs : List Loc) (ls : Array Slot), Wh (fun z : Int32 × Int32 => f_X4_sureBits_L5 sh ln j1 cl2 μ z.1 z.2) (v3, v4) = some res → Wd D (faB oa aa sh) (feB tc oa aa sh ln) A s.heap μ H locs → lv_has ls 5 [(0, .ref (oa (3, 0))), (1, .ref (oa (13, j1))), (2, .ref (oa (11, cl2))), (3, .int v3), (4, .int v4)] → W p l e (rmq 3 72) s m args below meth c H locs 0 0 Q (F0 m 5 ls []) := by
    intro v3 v4 H locs ls hf hW hl
    refine Wh_rule hf (fun z : Int32 × Int32 => ∀ (H : Heap) (locs : List Loc) (ls : Array Slot), Wd D (faB oa aa sh) (feB tc oa aa sh ln) A s.heap μ H locs → lv_has ls 5 [(0, .ref (oa (3, 0))), (1, .ref (oa (13, j1))), (2, .ref (oa (11, cl2))), (3, .int z.1), (4, .int z.2)] → W p l e (rmq 3 72) s m args below meth c H locs 0 0 Q (F0 m 5 ls [])) (fun z o1 hf Kl1 Kr1 => ?_) _ _ _ hW hl
    obtain ⟨v3, v4⟩ := z
    intro H locs ls hW hl
    have hf : f_X4_sureBits_L5 sh ln j1 cl2 μ v3 v4 = some o1 := hf
    unfold f_X4_sureBits_L5 at hf
    have hW : Wd D (faB oa aa sh) (feB tc oa aa sh ln) A s.heap μ H locs := hW
    have hl : lv_has ls 5 [(0, .ref (oa (3, 0))), (1, .ref (oa (13, j1))), (2, .ref (oa (11, cl2))), (3, .int v3), (4, .int v4)] := hl
    refine lv_iload hx hb dX4_sureBits_5 (lv_at hl 4 rfl) ?_
    refine lv_aload_n hx hb dX4_sureBits_7 rfl (lv_at hl 1 rfl) ?_
    refine gf_X4_78 C hW hj1 dX4_sureBits_8 ?_
    refine lv_icmp_ge (tgt := 49) hx hb dX4_sureBits_11 (by decide) (fun c1 => ?_) (fun c1 => ?_)
    · have hf := (if_pos c1).symm.trans hf
      obtain ⟨x9002, hf, hx9002⟩ := map_of hf
      have e9002 := (Kr1 _ hx9002.symm).symm
      subst e9002
      refine lv_iload_n hx hb dX4_sureBits_49 rfl (lv_at hl 3 rfl) ?_
      obtain rfl := Option.some.inj hf
      rw [hQ]
      exact r_iret C hr hk hW rfl rfl dX4_sureBits_50
    · have hf := (if_neg c1).symm.trans hf
      refine lv_aload_n hx hb dX4_sureBits_14 rfl (lv_at hl 0 rfl) ?_
      refine lv_aload_n hx hb dX4_sureBits_15 rfl (lv_at hl 0 rfl) ?_
      refine lv_aload_n hx hb dX4_sureBits_16 rfl (lv_at hl 1 rfl) ?_
      refine lv_aload_n hx hb dX4_sureBits_17 rfl (lv_at hl 2 rfl) ?_
      refine lv_iload hx hb dX4_sureBits_18 (lv_at hl 4 rfl) ?_
      refine lv_iload hx hb dX4_sureBits_20 (lv_at hl 4 rfl) ?_
      refine lv_aload_n hx hb dX4_sureBits_22 rfl (lv_at hl 1 rfl) ?_
      refine gf_X4_81 C hW hj1 dX4_sureBits_23 ?_
      obtain ⟨x26, h26, hf⟩ := bd_of hf
      refine r_callV (k := ((3, 0) : Ky)) C hW hl lk_X4_71 (c_X4_possibleBits hwf hj1 hc2 h26) ⟨rfl, rfl⟩ ⟨Nat.le_of_ble_eq_true rfl, Nat.le_of_ble_eq_true rfl⟩ rfl rfl rfl (As := [.ref (oa (13, j1)), .ref (oa (11, cl2)), .int v4, .int v4, .int (μ (13, j1) 3)]) (rest := [.ref (oa (3, 0))]) rfl rfl (Nat.le_of_ble_eq_true rfl) dX4_sureBits_26 ⟨Nat.zero_le _, Nat.zero_le _⟩ (fun H locs hW => ?_)
      show W p l e (rmq 3 72) s m args below meth c H locs 0 0 Q (F0 m 29 ls [.int x26, .ref (oa (3, 0))])
      obtain ⟨x29, h29, hf⟩ := bd_of hf
      refine r_callV (k := ((3, 0) : Ky)) C hW hl lk_X4_75 (c_X4_onlyOne h29) ⟨rfl, rfl⟩ ⟨Nat.le_of_ble_eq_true rfl, Nat.le_of_ble_eq_true rfl⟩ rfl rfl rfl (As := [.int x26]) (rest := []) rfl rfl (Nat.le_of_ble_eq_true rfl) dX4_sureBits_29 ⟨Nat.zero_le _, Nat.zero_le _⟩ (fun H locs hW => ?_)
      show W p l e (rmq 3 72) s m args below meth c H locs 0 0 Q (F0 m 32 ls [.int x29])
      refine lv_iconst (v := -1) hx hb dX4_sureBits_32 (by decide) ?_
      refine lv_icmp_eq (tgt := 43) hx hb dX4_sureBits_33 (by decide) (fun c3 => ?_) (fun c3 => ?_)
      · have hf := (if_pos c3).symm.trans hf
        refine lv_iinc (v := (v4 + (1 : Int32))) (lv' := [(4, .int (v4 + (1 : Int32))), (0, .ref (oa (3, 0))), (1, .ref (oa (13, j1))), (2, .ref (oa (11, cl2))), (3, .int v3)]) hx hb dX4_sureBits_43 hl (k := 4) rfl rfl (by decide) rfl (fun ls hl => ?_)
        refine lv_goto (tgt := 5) hx hb dX4_sureBits_46 (by decide) ?_
        obtain rfl := Option.some.inj hf
        exact Kl1 _ rfl _ _ _ hW (lv_sub hl [1, 2, 3, 4, 0] rfl)
      · have hf := (if_neg c3).symm.trans hf
        refine lv_iload_n hx hb dX4_sureBits_36 rfl (lv_at hl 3 rfl) ?_
        refine lv_iconst (v := 1) hx hb dX4_sureBits_37 (by decide) ?_
        refine lv_iload hx hb dX4_sureBits_38 (lv_at hl 4 rfl) ?_
        refine lv_ishl hx hb dX4_sureBits_40 ?_
        refine lv_ior hx hb dX4_sureBits_41 ?_
        refine lv_istore_n (lv' := [(3, .int (v3 ||| ((1 : Int32) <<< (v4 &&& 31)))), (0, .ref (oa (3, 0))), (1, .ref (oa (13, j1))), (2, .ref (oa (11, cl2))), (4, .int v4)]) hx hb dX4_sureBits_42 rfl hl (by decide) rfl (fun ls hl => ?_)
        refine lv_iinc (v := (v4 + (1 : Int32))) (lv' := [(4, .int (v4 + (1 : Int32))), (3, .int (v3 ||| ((1 : Int32) <<< (v4 &&& 31)))), (0, .ref (oa (3, 0))), (1, .ref (oa (13, j1))), (2, .ref (oa (11, cl2)))]) hx hb dX4_sureBits_43 hl (k := 4) rfl rfl (by decide) rfl (fun ls hl => ?_)
        refine lv_goto (tgt := 5) hx hb dX4_sureBits_46 (by decide) ?_
        obtain rfl := Option.some.inj hf
        exact Kl1 _ rfl _ _ _ hW (lv_sub hl [2, 3, 4, 1, 0] rfl)
  exact L5 (0 : Int32) (0 : Int32) _ _ _ hf hW (lv_sub hl [2, 3, 4, 1, 0] rfl)
set_option maxHeartbeats 4000000 in
set_option maxRecDepth 100000 in
theorem c_X4_knownBits {l : Launch} {D : va_G} {tc : Nat → ClassId} {ro : Ro} {oa : Ky → Nat} {aa : Nat → Nat} {sh : Sh} {ln : Nat → Nat} {j1 : Nat} {μ : Mm} {v2 : Int32} {res : Int32} (hwf : WfS sh) (hj1 : sh 2 j1 = 1) (hf : f_X4_knownBits sh ln j1 μ v2 = some res) : Ct l D tc ro (faB oa aa sh) (feB tc oa aa sh ln) yX4_knownBits cX4_knownBits 5 (some .int) (rmq 3 72) [.ref (oa (3, 0)), .ref (oa (13, j1)), .int v2] μ (some (.int res)) μ := by
  refine Ct.of (by decide) (Nat.le_of_ble_eq_true rfl) (fun p e s m args below meth c A C hr hk hW ls hl => ?_)
  have hx := C.1.1
  have hb := C.1.2.1
  obtain ⟨Q, hQ⟩ : ∃ Q, Q = MQ below (Ctq D (faB oa aa sh) (feB tc oa aa sh ln) (some (.int res)) μ A) args s 0 0 A := ⟨_, rfl⟩
  rw [← hQ]
  have hl : lv_has ls 5 [(0, .ref (oa (3, 0))), (1, .ref (oa (13, j1))), (2, .int v2)] := hl
  unfold f_X4_knownBits at hf
  refine lv_iconst (v := 0) hx hb dX4_knownBits_0 (by decide) ?_
  refine lv_istore_n (lv' := [(3, .int (0 : Int32)), (0, .ref (oa (3, 0))), (1, .ref (oa (13, j1))), (2, .int v2)]) hx hb dX4_knownBits_1 rfl hl (by decide) rfl (fun ls hl => ?_)
  refine lv_iconst (v := 0) hx hb dX4_knownBits_2 (by decide) ?_
  refine lv_istore (lv' := [(4, .int (0 : Int32)), (3, .int (0 : Int32)), (0, .ref (oa (3, 0))), (1, .ref (oa (13, j1))), (2, .int v2)]) hx hb dX4_knownBits_3 hl (by decide) rfl (fun ls hl => ?_)
  have L5 : ∀ (v3 v4 : Int32) (H : Heap) (locs : List Loc) (ls : Array Slot), Wh (fun z : Int32 × Int32 => f_X4_knownBits_L5 sh ln j1 v2 μ z.1 z.2) (v3, v4) = some res → Wd D (faB oa aa sh) (feB tc oa aa sh ln) A s.heap μ H locs → lv_has ls 5 [(0, .ref (oa (3, 0))), (1, .ref (oa (13, j1))), (2, .int v2), (3, .int v3), (4, .int v4)] → W p l e (rmq 3 72) s m args below meth c H locs 0 0 Q (F0 m 5 ls []) := by
    intro v3 v4 H locs ls hf hW hl
    refine Wh_rule hf (fun z : Int32 × Int32 => ∀ (H : Heap) (locs : List Loc) (ls : Array Slot), Wd D (faB oa aa sh) (feB tc oa aa sh ln) A s.heap μ H locs → lv_has ls 5 [(0, .ref (oa (3, 0))), (1, .ref (oa (13, j1))), (2, .int v2), (3, .int z.1), (4, .int z.2)] → W p l e (rmq 3 72) s m args below meth c H locs 0 0 Q (F0 m 5 ls [])) (fun z o1 hf Kl1 Kr1 => ?_) _ _ _ hW hl
    obtain ⟨v3, v4⟩ := z
    intro H locs ls hW hl
    have hf : f_X4_knownBits_L5 sh ln j1 v2 μ v3 v4 = some o1 := hf
    unfold f_X4_knownBits_L5 at hf
    have hW : Wd D (faB oa aa sh) (feB tc oa aa sh ln) A s.heap μ H locs := hW
    have hl : lv_has ls 5 [(0, .ref (oa (3, 0))), (1, .ref (oa (13, j1))), (2, .int v2), (3, .int v3), (4, .int v4)] := hl
    refine lv_iload hx hb dX4_knownBits_5 (lv_at hl 4 rfl) ?_
    refine lv_aload_n hx hb dX4_knownBits_7 rfl (lv_at hl 1 rfl) ?_
    refine gf_X4_78 C hW hj1 dX4_knownBits_8 ?_
    refine lv_icmp_ge (tgt := 51) hx hb dX4_knownBits_11 (by decide) (fun c1 => ?_) (fun c1 => ?_)
    · have hf := (if_pos c1).symm.trans hf
      obtain ⟨x9002, hf, hx9002⟩ := map_of hf
      have e9002 := (Kr1 _ hx9002.symm).symm
      subst e9002
      refine lv_iload_n hx hb dX4_knownBits_51 rfl (lv_at hl 3 rfl) ?_
      obtain rfl := Option.some.inj hf
      rw [hQ]
      exact r_iret C hr hk hW rfl rfl dX4_knownBits_52
    · have hf := (if_neg c1).symm.trans hf
      refine lv_aload_n hx hb dX4_knownBits_14 rfl (lv_at hl 0 rfl) ?_
      refine lv_aload_n hx hb dX4_knownBits_15 rfl (lv_at hl 0 rfl) ?_
      refine lv_aload_n hx hb dX4_knownBits_16 rfl (lv_at hl 1 rfl) ?_
      refine lv_aload_n hx hb dX4_knownBits_17 rfl (lv_at hl 1 rfl) ?_
      refine gf_X4_84 C hW hj1 dX4_knownBits_18 ?_
      refine lv_iload_n hx hb dX4_knownBits_21 rfl (lv_at hl 2 rfl) ?_
      refine lv_iload hx hb dX4_knownBits_22 (lv_at hl 4 rfl) ?_
      refine lv_aload_n hx hb dX4_knownBits_24 rfl (lv_at hl 1 rfl) ?_
      refine gf_X4_81 C hW hj1 dX4_knownBits_25 ?_
      obtain ⟨x28, h28, hf⟩ := bd_of hf
      refine r_callV (k := ((3, 0) : Ky)) C hW hl lk_X4_71 (c_X4_possibleBits hwf hj1 (cex_st hj1 (by decide)) h28) ⟨rfl, rfl⟩ ⟨Nat.le_of_ble_eq_true rfl, Nat.le_of_ble_eq_true rfl⟩ rfl rfl rfl (As := [.ref (oa (13, j1)), .ref (oa (11, 15 + 5 * j1 + 2)), .int v2, .int v4, .int (μ (13, j1) 3)]) (rest := [.ref (oa (3, 0))]) rfl rfl (Nat.le_of_ble_eq_true rfl) dX4_knownBits_28 ⟨Nat.zero_le _, Nat.zero_le _⟩ (fun H locs hW => ?_)
      show W p l e (rmq 3 72) s m args below meth c H locs 0 0 Q (F0 m 31 ls [.int x28, .ref (oa (3, 0))])
      obtain ⟨x31, h31, hf⟩ := bd_of hf
      refine r_callV (k := ((3, 0) : Ky)) C hW hl lk_X4_75 (c_X4_onlyOne h31) ⟨rfl, rfl⟩ ⟨Nat.le_of_ble_eq_true rfl, Nat.le_of_ble_eq_true rfl⟩ rfl rfl rfl (As := [.int x28]) (rest := []) rfl rfl (Nat.le_of_ble_eq_true rfl) dX4_knownBits_31 ⟨Nat.zero_le _, Nat.zero_le _⟩ (fun H locs hW => ?_)
      show W p l e (rmq 3 72) s m args below meth c H locs 0 0 Q (F0 m 34 ls [.int x31])
      refine lv_iconst (v := -1) hx hb dX4_knownBits_34 (by decide) ?_
      refine lv_icmp_eq (tgt := 45) hx hb dX4_knownBits_35 (by decide) (fun c3 => ?_) (fun c3 => ?_)
      · have hf := (if_pos c3).symm.trans hf
        refine lv_iinc (v := (v4 + (1 : Int32))) (lv' := [(4, .int (v4 + (1 : Int32))), (0, .ref (oa (3, 0))), (1, .ref (oa (13, j1))), (2, .int v2), (3, .int v3)]) hx hb dX4_knownBits_45 hl (k := 4) rfl rfl (by decide) rfl (fun ls hl => ?_)
        refine lv_goto (tgt := 5) hx hb dX4_knownBits_48 (by decide) ?_
        obtain rfl := Option.some.inj hf
        exact Kl1 _ rfl _ _ _ hW (lv_sub hl [1, 2, 3, 4, 0] rfl)
      · have hf := (if_neg c3).symm.trans hf
        refine lv_iload_n hx hb dX4_knownBits_38 rfl (lv_at hl 3 rfl) ?_
        refine lv_iconst (v := 1) hx hb dX4_knownBits_39 (by decide) ?_
        refine lv_iload hx hb dX4_knownBits_40 (lv_at hl 4 rfl) ?_
        refine lv_ishl hx hb dX4_knownBits_42 ?_
        refine lv_ior hx hb dX4_knownBits_43 ?_
        refine lv_istore_n (lv' := [(3, .int (v3 ||| ((1 : Int32) <<< (v4 &&& 31)))), (0, .ref (oa (3, 0))), (1, .ref (oa (13, j1))), (2, .int v2), (4, .int v4)]) hx hb dX4_knownBits_44 rfl hl (by decide) rfl (fun ls hl => ?_)
        refine lv_iinc (v := (v4 + (1 : Int32))) (lv' := [(4, .int (v4 + (1 : Int32))), (3, .int (v3 ||| ((1 : Int32) <<< (v4 &&& 31)))), (0, .ref (oa (3, 0))), (1, .ref (oa (13, j1))), (2, .int v2)]) hx hb dX4_knownBits_45 hl (k := 4) rfl rfl (by decide) rfl (fun ls hl => ?_)
        refine lv_goto (tgt := 5) hx hb dX4_knownBits_48 (by decide) ?_
        obtain rfl := Option.some.inj hf
        exact Kl1 _ rfl _ _ _ hW (lv_sub hl [2, 3, 4, 1, 0] rfl)
  exact L5 (0 : Int32) (0 : Int32) _ _ _ hf hW (lv_sub hl [2, 3, 4, 1, 0] rfl)
set_option maxHeartbeats 4000000 in
set_option maxRecDepth 100000 in
theorem c_X4_manyPossible {l : Launch} {D : va_G} {tc : Nat → ClassId} {ro : Ro} {oa : Ky → Nat} {aa : Nat → Nat} {sh : Sh} {ln : Nat → Nat} {j1 : Nat} {μ : Mm} {v2 : Int32} {res : Int32} (hwf : WfS sh) (hj1 : sh 2 j1 = 1) (hf : f_X4_manyPossible sh ln j1 μ v2 = some res) : Ct l D tc ro (faB oa aa sh) (feB tc oa aa sh ln) yX4_manyPossible cX4_manyPossible 5 (some .int) (rmq 3 72) [.ref (oa (3, 0)), .ref (oa (13, j1)), .int v2] μ (some (.int res)) μ := by
  refine Ct.of (by decide) (Nat.le_of_ble_eq_true rfl) (fun p e s m args below meth c A C hr hk hW ls hl => ?_)
  have hx := C.1.1
  have hb := C.1.2.1
  obtain ⟨Q, hQ⟩ : ∃ Q, Q = MQ below (Ctq D (faB oa aa sh) (feB tc oa aa sh ln) (some (.int res)) μ A) args s 0 0 A := ⟨_, rfl⟩
  rw [← hQ]
  have hl : lv_has ls 5 [(0, .ref (oa (3, 0))), (1, .ref (oa (13, j1))), (2, .int v2)] := hl
  unfold f_X4_manyPossible at hf
  refine lv_iconst (v := 0) hx hb dX4_manyPossible_0 (by decide) ?_
  refine lv_istore_n (lv' := [(3, .int (0 : Int32)), (0, .ref (oa (3, 0))), (1, .ref (oa (13, j1))), (2, .int v2)]) hx hb dX4_manyPossible_1 rfl hl (by decide) rfl (fun ls hl => ?_)
  refine lv_iconst (v := 0) hx hb dX4_manyPossible_2 (by decide) ?_
  refine lv_istore (lv' := [(4, .int (0 : Int32)), (3, .int (0 : Int32)), (0, .ref (oa (3, 0))), (1, .ref (oa (13, j1))), (2, .int v2)]) hx hb dX4_manyPossible_3 hl (by decide) rfl (fun ls hl => ?_)
  have L5 : ∀ (v3 v4 : Int32) (H : Heap) (locs : List Loc) (ls : Array Slot), Wh (fun z : Int32 × Int32 => f_X4_manyPossible_L5 sh ln j1 v2 μ z.1 z.2) (v3, v4) = some res → Wd D (faB oa aa sh) (feB tc oa aa sh ln) A s.heap μ H locs → lv_has ls 5 [(0, .ref (oa (3, 0))), (1, .ref (oa (13, j1))), (2, .int v2), (3, .int v3), (4, .int v4)] → W p l e (rmq 3 72) s m args below meth c H locs 0 0 Q (F0 m 5 ls []) := by
    intro v3 v4 H locs ls hf hW hl
    refine Wh_rule hf (fun z : Int32 × Int32 => ∀ (H : Heap) (locs : List Loc) (ls : Array Slot), Wd D (faB oa aa sh) (feB tc oa aa sh ln) A s.heap μ H locs → lv_has ls 5 [(0, .ref (oa (3, 0))), (1, .ref (oa (13, j1))), (2, .int v2), (3, .int z.1), (4, .int z.2)] → W p l e (rmq 3 72) s m args below meth c H locs 0 0 Q (F0 m 5 ls [])) (fun z o1 hf Kl1 Kr1 => ?_) _ _ _ hW hl
    obtain ⟨v3, v4⟩ := z
    intro H locs ls hW hl
    have hf : f_X4_manyPossible_L5 sh ln j1 v2 μ v3 v4 = some o1 := hf
    unfold f_X4_manyPossible_L5 at hf
    have hW : Wd D (faB oa aa sh) (feB tc oa aa sh ln) A s.heap μ H locs := hW
    have hl : lv_has ls 5 [(0, .ref (oa (3, 0))), (1, .ref (oa (13, j1))), (2, .int v2), (3, .int v3), (4, .int v4)] := hl
    refine lv_iload hx hb dX4_manyPossible_5 (lv_at hl 4 rfl) ?_
    refine lv_aload_n hx hb dX4_manyPossible_7 rfl (lv_at hl 1 rfl) ?_
    refine gf_X4_78 C hW hj1 dX4_manyPossible_8 ?_
    refine lv_icmp_ge (tgt := 42) hx hb dX4_manyPossible_11 (by decide) (fun c1 => ?_) (fun c1 => ?_)
    · have hf := (if_pos c1).symm.trans hf
      obtain ⟨x9002, hf, hx9002⟩ := map_of hf
      have e9002 := (Kr1 _ hx9002.symm).symm
      subst e9002
      refine lv_iload_n hx hb dX4_manyPossible_42 rfl (lv_at hl 3 rfl) ?_
      obtain rfl := Option.some.inj hf
      rw [hQ]
      exact r_iret C hr hk hW rfl rfl dX4_manyPossible_43
    · have hf := (if_neg c1).symm.trans hf
      refine lv_iload_n hx hb dX4_manyPossible_14 rfl (lv_at hl 3 rfl) ?_
      refine lv_aload_n hx hb dX4_manyPossible_15 rfl (lv_at hl 0 rfl) ?_
      refine lv_aload_n hx hb dX4_manyPossible_16 rfl (lv_at hl 1 rfl) ?_
      refine lv_aload_n hx hb dX4_manyPossible_17 rfl (lv_at hl 1 rfl) ?_
      refine gf_X4_84 C hW hj1 dX4_manyPossible_18 ?_
      refine lv_iload_n hx hb dX4_manyPossible_21 rfl (lv_at hl 2 rfl) ?_
      refine lv_iload hx hb dX4_manyPossible_22 (lv_at hl 4 rfl) ?_
      refine lv_aload_n hx hb dX4_manyPossible_24 rfl (lv_at hl 1 rfl) ?_
      refine gf_X4_81 C hW hj1 dX4_manyPossible_25 ?_
      obtain ⟨x28, h28, hf⟩ := bd_of hf
      refine r_callV (k := ((3, 0) : Ky)) C hW hl lk_X4_71 (c_X4_possibleBits hwf hj1 (cex_st hj1 (by decide)) h28) ⟨rfl, rfl⟩ ⟨Nat.le_of_ble_eq_true rfl, Nat.le_of_ble_eq_true rfl⟩ rfl rfl rfl (As := [.ref (oa (13, j1)), .ref (oa (11, 15 + 5 * j1 + 2)), .int v2, .int v4, .int (μ (13, j1) 3)]) (rest := [.int v3]) rfl rfl (Nat.le_of_ble_eq_true rfl) dX4_manyPossible_28 ⟨Nat.zero_le _, Nat.zero_le _⟩ (fun H locs hW => ?_)
      show W p l e (rmq 3 72) s m args below meth c H locs 0 0 Q (F0 m 31 ls [.int x28, .int v3])
      obtain ⟨x31, h31, hf⟩ := bd_of hf
      refine r_callS C hW hl lk_X4_63 (c_J6_bitCount_0f7a4 h31) ⟨rfl, rfl⟩ ⟨Nat.le_of_ble_eq_true rfl, Nat.le_of_ble_eq_true rfl⟩ (As := [.int x28]) (rest := [.int v3]) rfl rfl (Nat.le_of_ble_eq_true rfl) dX4_manyPossible_31 ⟨Nat.zero_le _, Nat.zero_le _⟩ (fun H locs hW => ?_)
      show W p l e (rmq 3 72) s m args below meth c H locs 0 0 Q (F0 m 34 ls [.int x31, .int v3])
      refine lv_iadd hx hb dX4_manyPossible_34 ?_
      refine lv_istore_n (lv' := [(3, .int (v3 + x31)), (0, .ref (oa (3, 0))), (1, .ref (oa (13, j1))), (2, .int v2), (4, .int v4)]) hx hb dX4_manyPossible_35 rfl hl (by decide) rfl (fun ls hl => ?_)
      refine lv_iinc (v := (v4 + (1 : Int32))) (lv' := [(4, .int (v4 + (1 : Int32))), (3, .int (v3 + x31)), (0, .ref (oa (3, 0))), (1, .ref (oa (13, j1))), (2, .int v2)]) hx hb dX4_manyPossible_36 hl (k := 4) rfl rfl (by decide) rfl (fun ls hl => ?_)
      refine lv_goto (tgt := 5) hx hb dX4_manyPossible_39 (by decide) ?_
      obtain rfl := Option.some.inj hf
      exact Kl1 _ rfl _ _ _ hW (lv_sub hl [2, 3, 4, 1, 0] rfl)
  exact L5 (0 : Int32) (0 : Int32) _ _ _ hf hW (lv_sub hl [2, 3, 4, 1, 0] rfl)
set_option maxHeartbeats 4000000 in
set_option maxRecDepth 100000 in
theorem c_X4_manyLeft {l : Launch} {D : va_G} {tc : Nat → ClassId} {ro : Ro} {oa : Ky → Nat} {aa : Nat → Nat} {sh : Sh} {ln : Nat → Nat} {j1 : Nat} {μ : Mm} {res : Int32} (hwf : WfS sh) (hj1 : sh 2 j1 = 1) (hf : f_X4_manyLeft sh ln j1 μ = some res) : Ct l D tc ro (faB oa aa sh) (feB tc oa aa sh ln) yX4_manyLeft cX4_manyLeft 4 (some .int) (rmq 2 42) [.ref (oa (3, 0)), .ref (oa (13, j1))] μ (some (.int res)) μ := by
  refine Ct.of (by decide) (Nat.le_of_ble_eq_true rfl) (fun p e s m args below meth c A C hr hk hW ls hl => ?_)
  have hx := C.1.1
  have hb := C.1.2.1
  obtain ⟨Q, hQ⟩ : ∃ Q, Q = MQ below (Ctq D (faB oa aa sh) (feB tc oa aa sh ln) (some (.int res)) μ A) args s 0 0 A := ⟨_, rfl⟩
  rw [← hQ]
  have hl : lv_has ls 4 [(0, .ref (oa (3, 0))), (1, .ref (oa (13, j1)))] := hl
  unfold f_X4_manyLeft at hf
  refine lv_iconst (v := 0) hx hb dX4_manyLeft_0 (by decide) ?_
  refine lv_istore_n (lv' := [(2, .int (0 : Int32)), (0, .ref (oa (3, 0))), (1, .ref (oa (13, j1)))]) hx hb dX4_manyLeft_1 rfl hl (by decide) rfl (fun ls hl => ?_)
  refine lv_iconst (v := 0) hx hb dX4_manyLeft_2 (by decide) ?_
  refine lv_istore_n (lv' := [(3, .int (0 : Int32)), (2, .int (0 : Int32)), (0, .ref (oa (3, 0))), (1, .ref (oa (13, j1)))]) hx hb dX4_manyLeft_3 rfl hl (by decide) rfl (fun ls hl => ?_)
  have L4 : ∀ (v2 v3 : Int32) (H : Heap) (locs : List Loc) (ls : Array Slot), Wh (fun z : Int32 × Int32 => f_X4_manyLeft_L4 sh ln j1 μ z.1 z.2) (v2, v3) = some res → Wd D (faB oa aa sh) (feB tc oa aa sh ln) A s.heap μ H locs → lv_has ls 4 [(1, .ref (oa (13, j1))), (2, .int v2), (3, .int v3)] → W p l e (rmq 2 42) s m args below meth c H locs 0 0 Q (F0 m 4 ls []) := by
    intro v2 v3 H locs ls hf hW hl
    refine Wh_rule hf (fun z : Int32 × Int32 => ∀ (H : Heap) (locs : List Loc) (ls : Array Slot), Wd D (faB oa aa sh) (feB tc oa aa sh ln) A s.heap μ H locs → lv_has ls 4 [(1, .ref (oa (13, j1))), (2, .int z.1), (3, .int z.2)] → W p l e (rmq 2 42) s m args below meth c H locs 0 0 Q (F0 m 4 ls [])) (fun z o1 hf Kl1 Kr1 => ?_) _ _ _ hW hl
    obtain ⟨v2, v3⟩ := z
    intro H locs ls hW hl
    have hf : f_X4_manyLeft_L4 sh ln j1 μ v2 v3 = some o1 := hf
    unfold f_X4_manyLeft_L4 at hf
    have hW : Wd D (faB oa aa sh) (feB tc oa aa sh ln) A s.heap μ H locs := hW
    have hl : lv_has ls 4 [(1, .ref (oa (13, j1))), (2, .int v2), (3, .int v3)] := hl
    refine lv_iload_n hx hb dX4_manyLeft_4 rfl (lv_at hl 2 rfl) ?_
    refine lv_aload_n hx hb dX4_manyLeft_5 rfl (lv_at hl 0 rfl) ?_
    refine gf_X4_52 C hW hj1 dX4_manyLeft_6 ?_
    refine lv_icmp_ge (tgt := 34) hx hb dX4_manyLeft_9 (by decide) (fun c1 => ?_) (fun c1 => ?_)
    · have hf := (if_pos c1).symm.trans hf
      obtain ⟨x9002, hf, hx9002⟩ := map_of hf
      have e9002 := (Kr1 _ hx9002.symm).symm
      subst e9002
      refine lv_iload_n hx hb dX4_manyLeft_34 rfl (lv_at hl 1 rfl) ?_
      obtain rfl := Option.some.inj hf
      rw [hQ]
      exact r_iret C hr hk hW rfl rfl dX4_manyLeft_35
    · have hf := (if_neg c1).symm.trans hf
      refine lv_iload_n hx hb dX4_manyLeft_12 rfl (lv_at hl 1 rfl) ?_
      refine lv_aload_n hx hb dX4_manyLeft_13 rfl (lv_at hl 0 rfl) ?_
      refine lv_iload_n hx hb dX4_manyLeft_14 rfl (lv_at hl 2 rfl) ?_
      obtain ⟨x15, h15, hf⟩ := bd_of hf
      refine r_callV (k := ((13, j1) : Ky)) C hW hl lk_X4_87 (c_X6_stands hwf hj1 h15) ⟨rfl, rfl⟩ ⟨Nat.le_of_ble_eq_true rfl, Nat.le_of_ble_eq_true rfl⟩ rfl (faB_13 hj1) rfl (As := [.int v3]) (rest := [.int v2]) rfl rfl (Nat.le_of_ble_eq_true rfl) dX4_manyLeft_15 ⟨Nat.zero_le _, Nat.zero_le _⟩ (fun H locs hW => ?_)
      show W p l e (rmq 2 42) s m args below meth c H locs 0 0 Q (F0 m 18 ls [.int x15, .int v2])
      refine lv_if_eq (tgt := 25) hx hb dX4_manyLeft_18 (by decide) (fun c3 => ?_) (fun c3 => ?_)
      · have hf := (if_pos c3).symm.trans hf
        refine lv_iconst (v := 0) hx hb dX4_manyLeft_25 (by decide) ?_
        refine lv_iadd hx hb dX4_manyLeft_26 ?_
        refine lv_istore_n (lv' := [(2, .int (v2 + (0 : Int32))), (1, .ref (oa (13, j1))), (3, .int v3)]) hx hb dX4_manyLeft_27 rfl hl (by decide) rfl (fun ls hl => ?_)
        refine lv_iinc (v := (v3 + (1 : Int32))) (lv' := [(3, .int (v3 + (1 : Int32))), (2, .int (v2 + (0 : Int32))), (1, .ref (oa (13, j1)))]) hx hb dX4_manyLeft_28 hl (k := 2) rfl rfl (by decide) rfl (fun ls hl => ?_)
        refine lv_goto (tgt := 4) hx hb dX4_manyLeft_31 (by decide) ?_
        obtain rfl := Option.some.inj hf
        exact Kl1 _ rfl _ _ _ hW (lv_sub hl [2, 1, 0] rfl)
      · have hf := (if_neg c3).symm.trans hf
        refine lv_iconst (v := 1) hx hb dX4_manyLeft_21 (by decide) ?_
        refine lv_goto (tgt := 26) hx hb dX4_manyLeft_22 (by decide) ?_
        refine lv_iadd hx hb dX4_manyLeft_26 ?_
        refine lv_istore_n (lv' := [(2, .int (v2 + (1 : Int32))), (1, .ref (oa (13, j1))), (3, .int v3)]) hx hb dX4_manyLeft_27 rfl hl (by decide) rfl (fun ls hl => ?_)
        refine lv_iinc (v := (v3 + (1 : Int32))) (lv' := [(3, .int (v3 + (1 : Int32))), (2, .int (v2 + (1 : Int32))), (1, .ref (oa (13, j1)))]) hx hb dX4_manyLeft_28 hl (k := 2) rfl rfl (by decide) rfl (fun ls hl => ?_)
        refine lv_goto (tgt := 4) hx hb dX4_manyLeft_31 (by decide) ?_
        obtain rfl := Option.some.inj hf
        exact Kl1 _ rfl _ _ _ hW (lv_sub hl [2, 1, 0] rfl)
  exact L4 (0 : Int32) (0 : Int32) _ _ _ hf hW (lv_sub hl [3, 1, 0] rfl)
set_option maxHeartbeats 4000000 in
set_option maxRecDepth 100000 in
theorem c_X4_holdsWorld {l : Launch} {D : va_G} {tc : Nat → ClassId} {ro : Ro} {oa : Ky → Nat} {aa : Nat → Nat} {sh : Sh} {ln : Nat → Nat} {j1 : Nat} {μ : Mm} {v2 v3 : Int32} {res : Int32} (hwf : WfS sh) (hj1 : sh 2 j1 = 1) (hf : f_X4_holdsWorld sh ln j1 μ v2 v3 = some res) : Ct l D tc ro (faB oa aa sh) (feB tc oa aa sh ln) yX4_holdsWorld cX4_holdsWorld 4 (some .boolean) (rmq 2 43) [.ref (oa (3, 0)), .ref (oa (13, j1)), .int v2, .int v3] μ (some (.int res)) μ := by
  refine Ct.of (by decide) (Nat.le_of_ble_eq_true rfl) (fun p e s m args below meth c A C hr hk hW ls hl => ?_)
  have hx := C.1.1
  have hb := C.1.2.1
  obtain ⟨Q, hQ⟩ : ∃ Q, Q = MQ below (Ctq D (faB oa aa sh) (feB tc oa aa sh ln) (some (.int res)) μ A) args s 0 0 A := ⟨_, rfl⟩
  rw [← hQ]
  have hl : lv_has ls 4 [(0, .ref (oa (3, 0))), (1, .ref (oa (13, j1))), (2, .int v2), (3, .int v3)] := hl
  unfold f_X4_holdsWorld at hf
  refine lv_aload_n hx hb dX4_holdsWorld_0 rfl (lv_at hl 1 rfl) ?_
  refine lv_iload_n hx hb dX4_holdsWorld_1 rfl (lv_at hl 3 rfl) ?_
  obtain ⟨x2, h2, hf⟩ := bd_of hf
  refine r_callV (k := ((13, j1) : Ky)) C hW hl lk_X4_87 (c_X6_stands hwf hj1 h2) ⟨rfl, rfl⟩ ⟨Nat.le_of_ble_eq_true rfl, Nat.le_of_ble_eq_true rfl⟩ rfl (faB_13 hj1) rfl (As := [.int v3]) (rest := []) rfl rfl (Nat.le_of_ble_eq_true rfl) dX4_holdsWorld_2 ⟨Nat.zero_le _, Nat.zero_le _⟩ (fun H locs hW => ?_)
  show W p l e (rmq 2 43) s m args below meth c H locs 0 0 Q (F0 m 5 ls [.int x2])
  refine lv_if_eq (tgt := 30) hx hb dX4_holdsWorld_5 (by decide) (fun c1 => ?_) (fun c1 => ?_)
  · have hf := (if_pos c1).symm.trans hf
    refine lv_iconst (v := 0) hx hb dX4_holdsWorld_30 (by decide) ?_
    obtain rfl := Option.some.inj hf
    rw [hQ]
    exact r_zret C hr hk hW (Or.inl rfl) rfl rfl dX4_holdsWorld_31
  · have hf := (if_neg c1).symm.trans hf
    refine lv_aload_n hx hb dX4_holdsWorld_8 rfl (lv_at hl 1 rfl) ?_
    refine lv_iload_n hx hb dX4_holdsWorld_9 rfl (lv_at hl 2 rfl) ?_
    refine lv_iload_n hx hb dX4_holdsWorld_10 rfl (lv_at hl 3 rfl) ?_
    obtain ⟨x11, h11, hf⟩ := bd_of hf
    refine r_callV (k := ((13, j1) : Ky)) C hW hl lk_X4_48 (c_X6_group hwf hj1 h11) ⟨rfl, rfl⟩ ⟨Nat.le_of_ble_eq_true rfl, Nat.le_of_ble_eq_true rfl⟩ rfl (faB_13 hj1) rfl (As := [.int v2, .int v3]) (rest := []) rfl rfl (Nat.le_of_ble_eq_true rfl) dX4_holdsWorld_11 ⟨Nat.zero_le _, Nat.zero_le _⟩ (fun H locs hW => ?_)
    show W p l e (rmq 2 43) s m args below meth c H locs 0 0 Q (F0 m 14 ls [.int x11])
    refine lv_aload_n hx hb dX4_holdsWorld_14 rfl (lv_at hl 1 rfl) ?_
    refine lv_iload_n hx hb dX4_holdsWorld_15 rfl (lv_at hl 2 rfl) ?_
    refine lv_aload_n hx hb dX4_holdsWorld_16 rfl (lv_at hl 1 rfl) ?_
    refine gf_X4_81 C hW hj1 dX4_holdsWorld_17 ?_
    obtain ⟨x20, h20, hf⟩ := bd_of hf
    refine r_callV (k := ((13, j1) : Ky)) C hW hl lk_X4_48 (c_X6_group hwf hj1 h20) ⟨rfl, rfl⟩ ⟨Nat.le_of_ble_eq_true rfl, Nat.le_of_ble_eq_true rfl⟩ rfl (faB_13 hj1) rfl (As := [.int v2, .int (μ (13, j1) 3)]) (rest := [.int x11]) rfl rfl (Nat.le_of_ble_eq_true rfl) dX4_holdsWorld_20 ⟨Nat.zero_le _, Nat.zero_le _⟩ (fun H locs hW => ?_)
    show W p l e (rmq 2 43) s m args below meth c H locs 0 0 Q (F0 m 23 ls [.int x20, .int x11])
    refine lv_icmp_ne (tgt := 30) hx hb dX4_holdsWorld_23 (by decide) (fun c2 => ?_) (fun c2 => ?_)
    · have hf := (if_neg c2).symm.trans hf
      refine lv_iconst (v := 0) hx hb dX4_holdsWorld_30 (by decide) ?_
      obtain rfl := Option.some.inj hf
      rw [hQ]
      exact r_zret C hr hk hW (Or.inl rfl) rfl rfl dX4_holdsWorld_31
    · have hf := (if_pos c2).symm.trans hf
      refine lv_iconst (v := 1) hx hb dX4_holdsWorld_26 (by decide) ?_
      refine lv_goto (tgt := 31) hx hb dX4_holdsWorld_27 (by decide) ?_
      obtain rfl := Option.some.inj hf
      rw [hQ]
      exact r_zret C hr hk hW (Or.inr rfl) rfl rfl dX4_holdsWorld_31
set_option maxHeartbeats 4000000 in
set_option maxRecDepth 100000 in
theorem c_X4_holds {l : Launch} {D : va_G} {tc : Nat → ClassId} {ro : Ro} {oa : Ky → Nat} {aa : Nat → Nat} {sh : Sh} {ln : Nat → Nat} {j1 : Nat} {μ : Mm} {v2 : Int32} {res : Int32} (hwf : WfS sh) (hj1 : sh 2 j1 = 1) (hf : f_X4_holds sh ln j1 μ v2 = some res) : Ct l D tc ro (faB oa aa sh) (feB tc oa aa sh ln) yX4_holds cX4_holds 5 (some .int) (rmq 3 66) [.ref (oa (3, 0)), .ref (oa (13, j1)), .int v2] μ (some (.int res)) μ := by
  refine Ct.of (by decide) (Nat.le_of_ble_eq_true rfl) (fun p e s m args below meth c A C hr hk hW ls hl => ?_)
  have hx := C.1.1
  have hb := C.1.2.1
  obtain ⟨Q, hQ⟩ : ∃ Q, Q = MQ below (Ctq D (faB oa aa sh) (feB tc oa aa sh ln) (some (.int res)) μ A) args s 0 0 A := ⟨_, rfl⟩
  rw [← hQ]
  have hl : lv_has ls 5 [(0, .ref (oa (3, 0))), (1, .ref (oa (13, j1))), (2, .int v2)] := hl
  unfold f_X4_holds at hf
  refine lv_iconst (v := 0) hx hb dX4_holds_0 (by decide) ?_
  refine lv_istore_n (lv' := [(3, .int (0 : Int32)), (0, .ref (oa (3, 0))), (1, .ref (oa (13, j1))), (2, .int v2)]) hx hb dX4_holds_1 rfl hl (by decide) rfl (fun ls hl => ?_)
  refine lv_iconst (v := 0) hx hb dX4_holds_2 (by decide) ?_
  refine lv_istore (lv' := [(4, .int (0 : Int32)), (3, .int (0 : Int32)), (0, .ref (oa (3, 0))), (1, .ref (oa (13, j1))), (2, .int v2)]) hx hb dX4_holds_3 hl (by decide) rfl (fun ls hl => ?_)
  have L5 : ∀ (v3 v4 : Int32) (H : Heap) (locs : List Loc) (ls : Array Slot), Wh (fun z : Int32 × Int32 => f_X4_holds_L5 sh ln j1 v2 μ z.1 z.2) (v3, v4) = some res → Wd D (faB oa aa sh) (feB tc oa aa sh ln) A s.heap μ H locs → lv_has ls 5 [(0, .ref (oa (3, 0))), (1, .ref (oa (13, j1))), (2, .int v2), (3, .int v3), (4, .int v4)] → W p l e (rmq 3 66) s m args below meth c H locs 0 0 Q (F0 m 5 ls []) := by
    intro v3 v4 H locs ls hf hW hl
    refine Wh_rule hf (fun z : Int32 × Int32 => ∀ (H : Heap) (locs : List Loc) (ls : Array Slot), Wd D (faB oa aa sh) (feB tc oa aa sh ln) A s.heap μ H locs → lv_has ls 5 [(0, .ref (oa (3, 0))), (1, .ref (oa (13, j1))), (2, .int v2), (3, .int z.1), (4, .int z.2)] → W p l e (rmq 3 66) s m args below meth c H locs 0 0 Q (F0 m 5 ls [])) (fun z o1 hf Kl1 Kr1 => ?_) _ _ _ hW hl
    obtain ⟨v3, v4⟩ := z
    intro H locs ls hW hl
    have hf : f_X4_holds_L5 sh ln j1 v2 μ v3 v4 = some o1 := hf
    unfold f_X4_holds_L5 at hf
    have hW : Wd D (faB oa aa sh) (feB tc oa aa sh ln) A s.heap μ H locs := hW
    have hl : lv_has ls 5 [(0, .ref (oa (3, 0))), (1, .ref (oa (13, j1))), (2, .int v2), (3, .int v3), (4, .int v4)] := hl
    refine lv_iload hx hb dX4_holds_5 (lv_at hl 4 rfl) ?_
    refine lv_aload_n hx hb dX4_holds_7 rfl (lv_at hl 1 rfl) ?_
    refine gf_X4_52 C hW hj1 dX4_holds_8 ?_
    refine lv_icmp_ge (tgt := 39) hx hb dX4_holds_11 (by decide) (fun c1 => ?_) (fun c1 => ?_)
    · have hf := (if_pos c1).symm.trans hf
      obtain ⟨x9002, hf, hx9002⟩ := map_of hf
      have e9002 := (Kr1 _ hx9002.symm).symm
      subst e9002
      refine lv_iload_n hx hb dX4_holds_39 rfl (lv_at hl 3 rfl) ?_
      obtain rfl := Option.some.inj hf
      rw [hQ]
      exact r_iret C hr hk hW rfl rfl dX4_holds_40
    · have hf := (if_neg c1).symm.trans hf
      refine lv_iload_n hx hb dX4_holds_14 rfl (lv_at hl 3 rfl) ?_
      refine lv_aload_n hx hb dX4_holds_15 rfl (lv_at hl 0 rfl) ?_
      refine lv_aload_n hx hb dX4_holds_16 rfl (lv_at hl 1 rfl) ?_
      refine lv_iload_n hx hb dX4_holds_17 rfl (lv_at hl 2 rfl) ?_
      refine lv_iload hx hb dX4_holds_18 (lv_at hl 4 rfl) ?_
      obtain ⟨x20, h20, hf⟩ := bd_of hf
      refine r_callV (k := ((3, 0) : Ky)) C hW hl lk_X4_91 (c_X4_holdsWorld hwf hj1 h20) ⟨rfl, rfl⟩ ⟨Nat.le_of_ble_eq_true rfl, Nat.le_of_ble_eq_true rfl⟩ rfl rfl rfl (As := [.ref (oa (13, j1)), .int v2, .int v4]) (rest := [.int v3]) rfl rfl (Nat.le_of_ble_eq_true rfl) dX4_holds_20 ⟨Nat.zero_le _, Nat.zero_le _⟩ (fun H locs hW => ?_)
      show W p l e (rmq 3 66) s m args below meth c H locs 0 0 Q (F0 m 23 ls [.int x20, .int v3])
      refine lv_if_eq (tgt := 30) hx hb dX4_holds_23 (by decide) (fun c3 => ?_) (fun c3 => ?_)
      · have hf := (if_pos c3).symm.trans hf
        refine lv_iconst (v := 0) hx hb dX4_holds_30 (by decide) ?_
        refine lv_iadd hx hb dX4_holds_31 ?_
        refine lv_istore_n (lv' := [(3, .int (v3 + (0 : Int32))), (0, .ref (oa (3, 0))), (1, .ref (oa (13, j1))), (2, .int v2), (4, .int v4)]) hx hb dX4_holds_32 rfl hl (by decide) rfl (fun ls hl => ?_)
        refine lv_iinc (v := (v4 + (1 : Int32))) (lv' := [(4, .int (v4 + (1 : Int32))), (3, .int (v3 + (0 : Int32))), (0, .ref (oa (3, 0))), (1, .ref (oa (13, j1))), (2, .int v2)]) hx hb dX4_holds_33 hl (k := 4) rfl rfl (by decide) rfl (fun ls hl => ?_)
        refine lv_goto (tgt := 5) hx hb dX4_holds_36 (by decide) ?_
        obtain rfl := Option.some.inj hf
        exact Kl1 _ rfl _ _ _ hW (lv_sub hl [2, 3, 4, 1, 0] rfl)
      · have hf := (if_neg c3).symm.trans hf
        refine lv_iconst (v := 1) hx hb dX4_holds_26 (by decide) ?_
        refine lv_goto (tgt := 31) hx hb dX4_holds_27 (by decide) ?_
        refine lv_iadd hx hb dX4_holds_31 ?_
        refine lv_istore_n (lv' := [(3, .int (v3 + (1 : Int32))), (0, .ref (oa (3, 0))), (1, .ref (oa (13, j1))), (2, .int v2), (4, .int v4)]) hx hb dX4_holds_32 rfl hl (by decide) rfl (fun ls hl => ?_)
        refine lv_iinc (v := (v4 + (1 : Int32))) (lv' := [(4, .int (v4 + (1 : Int32))), (3, .int (v3 + (1 : Int32))), (0, .ref (oa (3, 0))), (1, .ref (oa (13, j1))), (2, .int v2)]) hx hb dX4_holds_33 hl (k := 4) rfl rfl (by decide) rfl (fun ls hl => ?_)
        refine lv_goto (tgt := 5) hx hb dX4_holds_36 (by decide) ?_
        obtain rfl := Option.some.inj hf
        exact Kl1 _ rfl _ _ _ hW (lv_sub hl [2, 3, 4, 1, 0] rfl)
  exact L5 (0 : Int32) (0 : Int32) _ _ _ hf hW (lv_sub hl [2, 3, 4, 1, 0] rfl)
set_option maxHeartbeats 4000000 in
set_option maxRecDepth 100000 in
theorem c_X4_heldAt {l : Launch} {D : va_G} {tc : Nat → ClassId} {ro : Ro} {oa : Ky → Nat} {aa : Nat → Nat} {sh : Sh} {ln : Nat → Nat} {j1 : Nat} {μ : Mm} {v2 v3 : Int32} {res : Int32} (hwf : WfS sh) (hj1 : sh 2 j1 = 1) (hf : f_X4_heldAt sh ln j1 μ v2 v3 = some res) : Ct l D tc ro (faB oa aa sh) (feB tc oa aa sh ln) yX4_heldAt cX4_heldAt 6 (some .int) (rmq 3 66) [.ref (oa (3, 0)), .ref (oa (13, j1)), .int v2, .int v3] μ (some (.int res)) μ := by
  refine Ct.of (by decide) (Nat.le_of_ble_eq_true rfl) (fun p e s m args below meth c A C hr hk hW ls hl => ?_)
  have hx := C.1.1
  have hb := C.1.2.1
  obtain ⟨Q, hQ⟩ : ∃ Q, Q = MQ below (Ctq D (faB oa aa sh) (feB tc oa aa sh ln) (some (.int res)) μ A) args s 0 0 A := ⟨_, rfl⟩
  rw [← hQ]
  have hl : lv_has ls 6 [(0, .ref (oa (3, 0))), (1, .ref (oa (13, j1))), (2, .int v2), (3, .int v3)] := hl
  unfold f_X4_heldAt at hf
  refine lv_iconst (v := 0) hx hb dX4_heldAt_0 (by decide) ?_
  refine lv_istore (lv' := [(4, .int (0 : Int32)), (0, .ref (oa (3, 0))), (1, .ref (oa (13, j1))), (2, .int v2), (3, .int v3)]) hx hb dX4_heldAt_1 hl (by decide) rfl (fun ls hl => ?_)
  refine lv_iconst (v := 0) hx hb dX4_heldAt_3 (by decide) ?_
  refine lv_istore (lv' := [(5, .int (0 : Int32)), (4, .int (0 : Int32)), (0, .ref (oa (3, 0))), (1, .ref (oa (13, j1))), (2, .int v2), (3, .int v3)]) hx hb dX4_heldAt_4 hl (by decide) rfl (fun ls hl => ?_)
  have L6 : ∀ (v4 v5 : Int32) (H : Heap) (locs : List Loc) (ls : Array Slot), Wh (fun z : Int32 × Int32 => f_X4_heldAt_L6 sh ln j1 v2 v3 μ z.1 z.2) (v4, v5) = some res → Wd D (faB oa aa sh) (feB tc oa aa sh ln) A s.heap μ H locs → lv_has ls 6 [(0, .ref (oa (3, 0))), (1, .ref (oa (13, j1))), (2, .int v2), (3, .int v3), (4, .int v4), (5, .int v5)] → W p l e (rmq 3 66) s m args below meth c H locs 0 0 Q (F0 m 6 ls []) := by
    intro v4 v5 H locs ls hf hW hl
    refine Wh_rule hf (fun z : Int32 × Int32 => ∀ (H : Heap) (locs : List Loc) (ls : Array Slot), Wd D (faB oa aa sh) (feB tc oa aa sh ln) A s.heap μ H locs → lv_has ls 6 [(0, .ref (oa (3, 0))), (1, .ref (oa (13, j1))), (2, .int v2), (3, .int v3), (4, .int z.1), (5, .int z.2)] → W p l e (rmq 3 66) s m args below meth c H locs 0 0 Q (F0 m 6 ls [])) (fun z o1 hf Kl1 Kr1 => ?_) _ _ _ hW hl
    obtain ⟨v4, v5⟩ := z
    intro H locs ls hW hl
    have hf : f_X4_heldAt_L6 sh ln j1 v2 v3 μ v4 v5 = some o1 := hf
    unfold f_X4_heldAt_L6 at hf
    have hW : Wd D (faB oa aa sh) (feB tc oa aa sh ln) A s.heap μ H locs := hW
    have hl : lv_has ls 6 [(0, .ref (oa (3, 0))), (1, .ref (oa (13, j1))), (2, .int v2), (3, .int v3), (4, .int v4), (5, .int v5)] := hl
    refine lv_iload hx hb dX4_heldAt_6 (lv_at hl 5 rfl) ?_
    refine lv_aload_n hx hb dX4_heldAt_8 rfl (lv_at hl 1 rfl) ?_
    refine gf_X4_52 C hW hj1 dX4_heldAt_9 ?_
    refine lv_icmp_ge (tgt := 61) hx hb dX4_heldAt_12 (by decide) (fun c1 => ?_) (fun c1 => ?_)
    · have hf := (if_pos c1).symm.trans hf
      obtain ⟨x9002, hf, hx9002⟩ := map_of hf
      have e9002 := (Kr1 _ hx9002.symm).symm
      subst e9002
      refine lv_iconst (v := -1) hx hb dX4_heldAt_61 (by decide) ?_
      obtain rfl := Option.some.inj hf
      rw [hQ]
      exact r_iret C hr hk hW rfl rfl dX4_heldAt_62
    · have hf := (if_neg c1).symm.trans hf
      refine lv_iload_n hx hb dX4_heldAt_15 rfl (lv_at hl 2 rfl) ?_
      refine lv_iconst (v := -1) hx hb dX4_heldAt_16 (by decide) ?_
      refine lv_icmp_ne (tgt := 32) hx hb dX4_heldAt_17 (by decide) (fun c3 => ?_) (fun c3 => ?_)
      · have hf := (if_neg c3).symm.trans hf
        refine lv_aload_n hx hb dX4_heldAt_32 rfl (lv_at hl 0 rfl) ?_
        refine lv_aload_n hx hb dX4_heldAt_33 rfl (lv_at hl 1 rfl) ?_
        refine lv_iload_n hx hb dX4_heldAt_34 rfl (lv_at hl 2 rfl) ?_
        refine lv_iload hx hb dX4_heldAt_35 (lv_at hl 5 rfl) ?_
        obtain ⟨x37, h37, hf⟩ := bd_of hf
        refine r_callV (k := ((3, 0) : Ky)) C hW hl lk_X4_91 (c_X4_holdsWorld hwf hj1 h37) ⟨rfl, rfl⟩ ⟨Nat.le_of_ble_eq_true rfl, Nat.le_of_ble_eq_true rfl⟩ rfl rfl rfl (As := [.ref (oa (13, j1)), .int v2, .int v5]) (rest := []) rfl rfl (Nat.le_of_ble_eq_true rfl) dX4_heldAt_37 ⟨Nat.zero_le _, Nat.zero_le _⟩ (fun H locs hW => ?_)
        show W p l e (rmq 3 66) s m args below meth c H locs 0 0 Q (F0 m 40 ls [.int x37])
        refine lv_if_eq (tgt := 55) hx hb dX4_heldAt_40 (by decide) (fun c4 => ?_) (fun c4 => ?_)
        · have hf := (if_pos c4).symm.trans hf
          refine lv_iinc (v := (v5 + (1 : Int32))) (lv' := [(5, .int (v5 + (1 : Int32))), (0, .ref (oa (3, 0))), (1, .ref (oa (13, j1))), (2, .int v2), (3, .int v3), (4, .int v4)]) hx hb dX4_heldAt_55 hl (k := 5) rfl rfl (by decide) rfl (fun ls hl => ?_)
          refine lv_goto (tgt := 6) hx hb dX4_heldAt_58 (by decide) ?_
          obtain rfl := Option.some.inj hf
          exact Kl1 _ rfl _ _ _ hW (lv_sub hl [1, 2, 3, 4, 5, 0] rfl)
        · have hf := (if_neg c4).symm.trans hf
          refine lv_iload hx hb dX4_heldAt_43 (lv_at hl 4 rfl) ?_
          refine lv_iload_n hx hb dX4_heldAt_45 rfl (lv_at hl 3 rfl) ?_
          refine lv_icmp_ne (tgt := 52) hx hb dX4_heldAt_46 (by decide) (fun c5 => ?_) (fun c5 => ?_)
          · have hf := (if_neg c5).symm.trans hf
            refine lv_iinc (v := (v4 + (1 : Int32))) (lv' := [(4, .int (v4 + (1 : Int32))), (0, .ref (oa (3, 0))), (1, .ref (oa (13, j1))), (2, .int v2), (3, .int v3), (5, .int v5)]) hx hb dX4_heldAt_52 hl (k := 4) rfl rfl (by decide) rfl (fun ls hl => ?_)
            refine lv_iinc (v := (v5 + (1 : Int32))) (lv' := [(5, .int (v5 + (1 : Int32))), (4, .int (v4 + (1 : Int32))), (0, .ref (oa (3, 0))), (1, .ref (oa (13, j1))), (2, .int v2), (3, .int v3)]) hx hb dX4_heldAt_55 hl (k := 5) rfl rfl (by decide) rfl (fun ls hl => ?_)
            refine lv_goto (tgt := 6) hx hb dX4_heldAt_58 (by decide) ?_
            obtain rfl := Option.some.inj hf
            exact Kl1 _ rfl _ _ _ hW (lv_sub hl [2, 3, 4, 5, 1, 0] rfl)
          · have hf := (if_pos c5).symm.trans hf
            obtain ⟨x9006, hf, hx9006⟩ := map_of hf
            have e9006 := (Kr1 _ hx9006.symm).symm
            subst e9006
            refine lv_iload hx hb dX4_heldAt_49 (lv_at hl 5 rfl) ?_
            obtain rfl := Option.some.inj hf
            rw [hQ]
            exact r_iret C hr hk hW rfl rfl dX4_heldAt_51
      · have hf := (if_pos c3).symm.trans hf
        refine lv_aload_n hx hb dX4_heldAt_20 rfl (lv_at hl 1 rfl) ?_
        refine lv_iload hx hb dX4_heldAt_21 (lv_at hl 5 rfl) ?_
        obtain ⟨x23, h23, hf⟩ := bd_of hf
        refine r_callV (k := ((13, j1) : Ky)) C hW hl lk_X4_87 (c_X6_stands hwf hj1 h23) ⟨rfl, rfl⟩ ⟨Nat.le_of_ble_eq_true rfl, Nat.le_of_ble_eq_true rfl⟩ rfl (faB_13 hj1) rfl (As := [.int v5]) (rest := []) rfl rfl (Nat.le_of_ble_eq_true rfl) dX4_heldAt_23 ⟨Nat.zero_le _, Nat.zero_le _⟩ (fun H locs hW => ?_)
        show W p l e (rmq 3 66) s m args below meth c H locs 0 0 Q (F0 m 26 ls [.int x23])
        refine lv_if_eq (tgt := 55) hx hb dX4_heldAt_26 (by decide) (fun c7 => ?_) (fun c7 => ?_)
        · have hf := (if_pos c7).symm.trans hf
          refine lv_iinc (v := (v5 + (1 : Int32))) (lv' := [(5, .int (v5 + (1 : Int32))), (0, .ref (oa (3, 0))), (1, .ref (oa (13, j1))), (2, .int v2), (3, .int v3), (4, .int v4)]) hx hb dX4_heldAt_55 hl (k := 5) rfl rfl (by decide) rfl (fun ls hl => ?_)
          refine lv_goto (tgt := 6) hx hb dX4_heldAt_58 (by decide) ?_
          obtain rfl := Option.some.inj hf
          exact Kl1 _ rfl _ _ _ hW (lv_sub hl [1, 2, 3, 4, 5, 0] rfl)
        · have hf := (if_neg c7).symm.trans hf
          refine lv_goto (tgt := 43) hx hb dX4_heldAt_29 (by decide) ?_
          refine lv_iload hx hb dX4_heldAt_43 (lv_at hl 4 rfl) ?_
          refine lv_iload_n hx hb dX4_heldAt_45 rfl (lv_at hl 3 rfl) ?_
          refine lv_icmp_ne (tgt := 52) hx hb dX4_heldAt_46 (by decide) (fun c8 => ?_) (fun c8 => ?_)
          · have hf := (if_neg c8).symm.trans hf
            refine lv_iinc (v := (v4 + (1 : Int32))) (lv' := [(4, .int (v4 + (1 : Int32))), (0, .ref (oa (3, 0))), (1, .ref (oa (13, j1))), (2, .int v2), (3, .int v3), (5, .int v5)]) hx hb dX4_heldAt_52 hl (k := 4) rfl rfl (by decide) rfl (fun ls hl => ?_)
            refine lv_iinc (v := (v5 + (1 : Int32))) (lv' := [(5, .int (v5 + (1 : Int32))), (4, .int (v4 + (1 : Int32))), (0, .ref (oa (3, 0))), (1, .ref (oa (13, j1))), (2, .int v2), (3, .int v3)]) hx hb dX4_heldAt_55 hl (k := 5) rfl rfl (by decide) rfl (fun ls hl => ?_)
            refine lv_goto (tgt := 6) hx hb dX4_heldAt_58 (by decide) ?_
            obtain rfl := Option.some.inj hf
            exact Kl1 _ rfl _ _ _ hW (lv_sub hl [2, 3, 4, 5, 1, 0] rfl)
          · have hf := (if_pos c8).symm.trans hf
            obtain ⟨x9009, hf, hx9009⟩ := map_of hf
            have e9009 := (Kr1 _ hx9009.symm).symm
            subst e9009
            refine lv_iload hx hb dX4_heldAt_49 (lv_at hl 5 rfl) ?_
            obtain rfl := Option.some.inj hf
            rw [hQ]
            exact r_iret C hr hk hW rfl rfl dX4_heldAt_51
  exact L6 (0 : Int32) (0 : Int32) _ _ _ hf hW (lv_sub hl [2, 3, 4, 5, 1, 0] rfl)
set_option maxHeartbeats 4000000 in
set_option maxRecDepth 100000 in
theorem c_X4_spot {l : Launch} {D : va_G} {tc : Nat → ClassId} {ro : Ro} {oa : Ky → Nat} {aa : Nat → Nat} {sh : Sh} {ln : Nat → Nat} {j1 cl2 : Nat} {μ : Mm} {v3 v4 : Int32} {res : Mm} (hwf : WfS sh) (hj1 : sh 2 j1 = 1) (hc2 : cex sh cl2 = true) (hf : f_X4_spot sh ln j1 cl2 μ v3 v4 = some res) : Ct l D tc ro (faB oa aa sh) (feB tc oa aa sh ln) yX4_spot cX4_spot 6 none (rmq 3 68) [.ref (oa (3, 0)), .ref (oa (13, j1)), .ref (oa (11, cl2)), .int v3, .int v4] μ none res := by
  refine Ct.of (by decide) (Nat.le_of_ble_eq_true rfl) (fun p e s m args below meth c A C hr hk hW ls hl => ?_)
  have hx := C.1.1
  have hb := C.1.2.1
  obtain ⟨Q, hQ⟩ : ∃ Q, Q = MQ below (Ctq D (faB oa aa sh) (feB tc oa aa sh ln) none res A) args s 0 0 A := ⟨_, rfl⟩
  rw [← hQ]
  have hl : lv_has ls 6 [(0, .ref (oa (3, 0))), (1, .ref (oa (13, j1))), (2, .ref (oa (11, cl2))), (3, .int v3), (4, .int v4)] := hl
  unfold f_X4_spot at hf
  refine lv_aload_n hx hb dX4_spot_0 rfl (lv_at hl 0 rfl) ?_
  refine gf_X4_22 C hW dX4_spot_1 ?_
  refine lv_iconst (v := 0) hx hb dX4_spot_4 (by decide) ?_
  refine lv_aload_n hx hb dX4_spot_5 rfl (lv_at hl 1 rfl) ?_
  refine gf_X4_52 C hW hj1 dX4_spot_6 ?_
  obtain ⟨x9, h9, hf⟩ := bd_of hf
  refine r_callV (k := ((11, 2) : Ky)) C hW hl lk_X4_103 (c_X1_fill hwf rfl h9) ⟨rfl, rfl⟩ ⟨Nat.le_of_ble_eq_true rfl, Nat.le_of_ble_eq_true rfl⟩ rfl (faB_11 rfl) rfl (As := [.int (0 : Int32), .int (μ (13, j1) 2)]) (rest := []) rfl rfl (Nat.le_of_ble_eq_true rfl) dX4_spot_9 ⟨Nat.zero_le _, Nat.zero_le _⟩ (fun H locs hW => ?_)
  show W p l e (rmq 3 68) s m args below meth c H locs 0 0 Q (F0 m 12 ls [])
  refine lv_iconst (v := 0) hx hb dX4_spot_12 (by decide) ?_
  refine lv_istore (lv' := [(5, .int (0 : Int32)), (0, .ref (oa (3, 0))), (1, .ref (oa (13, j1))), (2, .ref (oa (11, cl2))), (3, .int v3), (4, .int v4)]) hx hb dX4_spot_13 hl (by decide) rfl (fun ls hl => ?_)
  have L15 : ∀ (μ : Mm) (v5 : Int32) (H : Heap) (locs : List Loc) (ls : Array Slot), Wh (fun z : Mm × Int32 => f_X4_spot_L15 sh ln j1 cl2 v3 v4 z.1 z.2) (μ, v5) = some res → Wd D (faB oa aa sh) (feB tc oa aa sh ln) A s.heap μ H locs → lv_has ls 6 [(0, .ref (oa (3, 0))), (1, .ref (oa (13, j1))), (2, .ref (oa (11, cl2))), (3, .int v3), (4, .int v4), (5, .int v5)] → W p l e (rmq 3 68) s m args below meth c H locs 0 0 Q (F0 m 15 ls []) := by
    intro μ v5 H locs ls hf hW hl
    refine Wh_rule hf (fun z : Mm × Int32 => ∀ (H : Heap) (locs : List Loc) (ls : Array Slot), Wd D (faB oa aa sh) (feB tc oa aa sh ln) A s.heap z.1 H locs → lv_has ls 6 [(0, .ref (oa (3, 0))), (1, .ref (oa (13, j1))), (2, .ref (oa (11, cl2))), (3, .int v3), (4, .int v4), (5, .int z.2)] → W p l e (rmq 3 68) s m args below meth c H locs 0 0 Q (F0 m 15 ls [])) (fun z o1 hf Kl1 Kr1 => ?_) _ _ _ hW hl
    obtain ⟨μ, v5⟩ := z
    intro H locs ls hW hl
    have hf : f_X4_spot_L15 sh ln j1 cl2 v3 v4 μ v5 = some o1 := hf
    unfold f_X4_spot_L15 at hf
    have hW : Wd D (faB oa aa sh) (feB tc oa aa sh ln) A s.heap μ H locs := hW
    have hl : lv_has ls 6 [(0, .ref (oa (3, 0))), (1, .ref (oa (13, j1))), (2, .ref (oa (11, cl2))), (3, .int v3), (4, .int v4), (5, .int v5)] := hl
    refine lv_iload hx hb dX4_spot_15 (lv_at hl 5 rfl) ?_
    refine lv_aload_n hx hb dX4_spot_17 rfl (lv_at hl 1 rfl) ?_
    refine gf_X4_52 C hW hj1 dX4_spot_18 ?_
    refine lv_icmp_ge (tgt := 64) hx hb dX4_spot_21 (by decide) (fun c1 => ?_) (fun c1 => ?_)
    · have hf := (if_pos c1).symm.trans hf
      obtain ⟨x9002, hf, hx9002⟩ := map_of hf
      have e9002 := (Kr1 _ hx9002.symm).symm
      subst e9002
      obtain rfl := Option.some.inj hf
      rw [hQ]
      exact r_vret C hr hk hW rfl rfl dX4_spot_64
    · have hf := (if_neg c1).symm.trans hf
      refine lv_aload_n hx hb dX4_spot_24 rfl (lv_at hl 2 rfl) ?_
      refine lv_iload hx hb dX4_spot_25 (lv_at hl 5 rfl) ?_
      obtain ⟨x27, h27, hf⟩ := bd_of hf
      refine r_callV (k := ((11, cl2) : Ky)) C hW hl lk_X4_56 (c_X1_at hwf hc2 h27) ⟨rfl, rfl⟩ ⟨Nat.le_of_ble_eq_true rfl, Nat.le_of_ble_eq_true rfl⟩ rfl (faB_11 hc2) rfl (As := [.int v5]) (rest := []) rfl rfl (Nat.le_of_ble_eq_true rfl) dX4_spot_27 ⟨Nat.zero_le _, Nat.zero_le _⟩ (fun H locs hW => ?_)
      show W p l e (rmq 3 68) s m args below meth c H locs 0 0 Q (F0 m 30 ls [.int x27])
      refine lv_iconst (v := 1) hx hb dX4_spot_30 (by decide) ?_
      refine lv_icmp_ne (tgt := 58) hx hb dX4_spot_31 (by decide) (fun c3 => ?_) (fun c3 => ?_)
      · have hf := (if_neg c3).symm.trans hf
        refine lv_iinc (v := (v5 + (1 : Int32))) (lv' := [(5, .int (v5 + (1 : Int32))), (0, .ref (oa (3, 0))), (1, .ref (oa (13, j1))), (2, .ref (oa (11, cl2))), (3, .int v3), (4, .int v4)]) hx hb dX4_spot_58 hl (k := 5) rfl rfl (by decide) rfl (fun ls hl => ?_)
        refine lv_goto (tgt := 15) hx hb dX4_spot_61 (by decide) ?_
        obtain rfl := Option.some.inj hf
        exact Kl1 _ rfl _ _ _ hW (lv_sub hl [1, 2, 3, 4, 5, 0] rfl)
      · have hf := (if_pos c3).symm.trans hf
        refine lv_aload_n hx hb dX4_spot_34 rfl (lv_at hl 0 rfl) ?_
        refine gf_X4_22 C hW dX4_spot_35 ?_
        refine lv_aload_n hx hb dX4_spot_38 rfl (lv_at hl 1 rfl) ?_
        refine lv_iload_n hx hb dX4_spot_39 rfl (lv_at hl 3 rfl) ?_
        refine lv_iload hx hb dX4_spot_40 (lv_at hl 5 rfl) ?_
        obtain ⟨x42, h42, hf⟩ := bd_of hf
        refine r_callV (k := ((13, j1) : Ky)) C hW hl lk_X4_48 (c_X6_group hwf hj1 h42) ⟨rfl, rfl⟩ ⟨Nat.le_of_ble_eq_true rfl, Nat.le_of_ble_eq_true rfl⟩ rfl (faB_13 hj1) rfl (As := [.int v3, .int v5]) (rest := [.ref (oa (11, 2))]) rfl rfl (Nat.le_of_ble_eq_true rfl) dX4_spot_42 ⟨Nat.zero_le _, Nat.zero_le _⟩ (fun H locs hW => ?_)
        show W p l e (rmq 3 68) s m args below meth c H locs 0 0 Q (F0 m 45 ls [.int x42, .ref (oa (11, 2))])
        refine lv_iconst (v := 1) hx hb dX4_spot_45 (by decide) ?_
        refine lv_aload_n hx hb dX4_spot_46 rfl (lv_at hl 1 rfl) ?_
        refine lv_iload hx hb dX4_spot_47 (lv_at hl 5 rfl) ?_
        refine lv_iload hx hb dX4_spot_49 (lv_at hl 4 rfl) ?_
        obtain ⟨x51, h51, hf⟩ := bd_of hf
        refine r_callV (k := ((13, j1) : Ky)) C hW hl lk_X4_60 (c_X6_figure hwf hj1 h51) ⟨rfl, rfl⟩ ⟨Nat.le_of_ble_eq_true rfl, Nat.le_of_ble_eq_true rfl⟩ rfl (faB_13 hj1) rfl (As := [.int v5, .int v4]) (rest := [.int (1 : Int32), .int x42, .ref (oa (11, 2))]) rfl rfl (Nat.le_of_ble_eq_true rfl) dX4_spot_51 ⟨Nat.zero_le _, Nat.zero_le _⟩ (fun H locs hW => ?_)
        show W p l e (rmq 3 68) s m args below meth c H locs 0 0 Q (F0 m 54 ls [.int x51, .int (1 : Int32), .int x42, .ref (oa (11, 2))])
        refine lv_ishl hx hb dX4_spot_54 ?_
        obtain ⟨x55, h55, hf⟩ := bd_of hf
        refine r_callV (k := ((11, 2) : Ky)) C hW hl lk_X4_107 (c_X1_addBits hwf rfl h55) ⟨rfl, rfl⟩ ⟨Nat.le_of_ble_eq_true rfl, Nat.le_of_ble_eq_true rfl⟩ rfl (faB_11 rfl) rfl (As := [.int x42, .int ((1 : Int32) <<< (x51 &&& 31))]) (rest := []) rfl rfl (Nat.le_of_ble_eq_true rfl) dX4_spot_55 ⟨Nat.zero_le _, Nat.zero_le _⟩ (fun H locs hW => ?_)
        show W p l e (rmq 3 68) s m args below meth c H locs 0 0 Q (F0 m 58 ls [])
        refine lv_iinc (v := (v5 + (1 : Int32))) (lv' := [(5, .int (v5 + (1 : Int32))), (0, .ref (oa (3, 0))), (1, .ref (oa (13, j1))), (2, .ref (oa (11, cl2))), (3, .int v3), (4, .int v4)]) hx hb dX4_spot_58 hl (k := 5) rfl rfl (by decide) rfl (fun ls hl => ?_)
        refine lv_goto (tgt := 15) hx hb dX4_spot_61 (by decide) ?_
        obtain rfl := Option.some.inj hf
        exact Kl1 _ rfl _ _ _ hW (lv_sub hl [1, 2, 3, 4, 5, 0] rfl)
  exact L15 x9 (0 : Int32) _ _ _ hf hW (lv_sub hl [1, 2, 3, 4, 5, 0] rfl)
set_option maxHeartbeats 4000000 in
set_option maxRecDepth 100000 in
theorem c_X4_spotted {l : Launch} {D : va_G} {tc : Nat → ClassId} {ro : Ro} {oa : Ky → Nat} {aa : Nat → Nat} {sh : Sh} {ln : Nat → Nat} {j1 : Nat} {μ : Mm} {v2 v3 : Int32} {res : Int32} (hwf : WfS sh) (hj1 : sh 2 j1 = 1) (hf : f_X4_spotted sh ln j1 μ v2 v3 = some res) : Ct l D tc ro (faB oa aa sh) (feB tc oa aa sh ln) yX4_spotted cX4_spotted 4 (some .int) (rmq 2 43) [.ref (oa (3, 0)), .ref (oa (13, j1)), .int v2, .int v3] μ (some (.int res)) μ := by
  refine Ct.of (by decide) (Nat.le_of_ble_eq_true rfl) (fun p e s m args below meth c A C hr hk hW ls hl => ?_)
  have hx := C.1.1
  have hb := C.1.2.1
  obtain ⟨Q, hQ⟩ : ∃ Q, Q = MQ below (Ctq D (faB oa aa sh) (feB tc oa aa sh ln) (some (.int res)) μ A) args s 0 0 A := ⟨_, rfl⟩
  rw [← hQ]
  have hl : lv_has ls 4 [(0, .ref (oa (3, 0))), (1, .ref (oa (13, j1))), (2, .int v2), (3, .int v3)] := hl
  unfold f_X4_spotted at hf
  refine lv_aload_n hx hb dX4_spotted_0 rfl (lv_at hl 0 rfl) ?_
  refine gf_X4_22 C hW dX4_spotted_1 ?_
  refine lv_aload_n hx hb dX4_spotted_4 rfl (lv_at hl 1 rfl) ?_
  refine lv_iload_n hx hb dX4_spotted_5 rfl (lv_at hl 2 rfl) ?_
  refine lv_iload_n hx hb dX4_spotted_6 rfl (lv_at hl 3 rfl) ?_
  obtain ⟨x7, h7, hf⟩ := bd_of hf
  refine r_callV (k := ((13, j1) : Ky)) C hW hl lk_X4_48 (c_X6_group hwf hj1 h7) ⟨rfl, rfl⟩ ⟨Nat.le_of_ble_eq_true rfl, Nat.le_of_ble_eq_true rfl⟩ rfl (faB_13 hj1) rfl (As := [.int v2, .int v3]) (rest := [.ref (oa (11, 2))]) rfl rfl (Nat.le_of_ble_eq_true rfl) dX4_spotted_7 ⟨Nat.zero_le _, Nat.zero_le _⟩ (fun H locs hW => ?_)
  show W p l e (rmq 2 43) s m args below meth c H locs 0 0 Q (F0 m 10 ls [.int x7, .ref (oa (11, 2))])
  obtain ⟨x10, h10, hf⟩ := bd_of hf
  refine r_callV (k := ((11, 2) : Ky)) C hW hl lk_X4_56 (c_X1_at hwf rfl h10) ⟨rfl, rfl⟩ ⟨Nat.le_of_ble_eq_true rfl, Nat.le_of_ble_eq_true rfl⟩ rfl (faB_11 rfl) rfl (As := [.int x7]) (rest := []) rfl rfl (Nat.le_of_ble_eq_true rfl) dX4_spotted_10 ⟨Nat.zero_le _, Nat.zero_le _⟩ (fun H locs hW => ?_)
  show W p l e (rmq 2 43) s m args below meth c H locs 0 0 Q (F0 m 13 ls [.int x10])
  obtain rfl := Option.some.inj hf
  rw [hQ]
  exact r_iret C hr hk hW rfl rfl dX4_spotted_13
set_option maxHeartbeats 4000000 in
set_option maxRecDepth 100000 in
theorem c_X4_knowsThat {l : Launch} {D : va_G} {tc : Nat → ClassId} {ro : Ro} {oa : Ky → Nat} {aa : Nat → Nat} {sh : Sh} {ln : Nat → Nat} {j1 : Nat} {μ : Mm} {v2 v3 v4 : Int32} {res : Int32 × Mm} (hwf : WfS sh) (hj1 : sh 2 j1 = 1) (hf : f_X4_knowsThat sh ln j1 μ v2 v3 v4 = some res) : Ct l D tc ro (faB oa aa sh) (feB tc oa aa sh ln) yX4_knowsThat cX4_knowsThat 6 (some .boolean) (rmq 4 93) [.ref (oa (3, 0)), .ref (oa (13, j1)), .int v2, .int v3, .int v4] μ (some (.int res.1)) res.2 := by
  refine Ct.of (by decide) (Nat.le_of_ble_eq_true rfl) (fun p e s m args below meth c A C hr hk hW ls hl => ?_)
  have hx := C.1.1
  have hb := C.1.2.1
  obtain ⟨Q, hQ⟩ : ∃ Q, Q = MQ below (Ctq D (faB oa aa sh) (feB tc oa aa sh ln) (some (.int res.1)) res.2 A) args s 0 0 A := ⟨_, rfl⟩
  rw [← hQ]
  have hl : lv_has ls 6 [(0, .ref (oa (3, 0))), (1, .ref (oa (13, j1))), (2, .int v2), (3, .int v3), (4, .int v4)] := hl
  unfold f_X4_knowsThat at hf
  refine lv_aload_n hx hb dX4_knowsThat_0 rfl (lv_at hl 0 rfl) ?_
  refine lv_aload_n hx hb dX4_knowsThat_1 rfl (lv_at hl 1 rfl) ?_
  refine lv_aload_n hx hb dX4_knowsThat_2 rfl (lv_at hl 1 rfl) ?_
  refine gf_X4_84 C hW hj1 dX4_knowsThat_3 ?_
  refine lv_iload_n hx hb dX4_knowsThat_6 rfl (lv_at hl 3 rfl) ?_
  refine lv_iload hx hb dX4_knowsThat_7 (lv_at hl 4 rfl) ?_
  obtain ⟨x9, h9, hf⟩ := bd_of hf
  refine r_callV (k := ((3, 0) : Ky)) C hW hl lk_X4_95 (c_X4_spot hwf hj1 (cex_st hj1 (by decide)) h9) ⟨rfl, rfl⟩ ⟨Nat.le_of_ble_eq_true rfl, Nat.le_of_ble_eq_true rfl⟩ rfl rfl rfl (As := [.ref (oa (13, j1)), .ref (oa (11, 15 + 5 * j1 + 2)), .int v3, .int v4]) (rest := []) rfl rfl (Nat.le_of_ble_eq_true rfl) dX4_knowsThat_9 ⟨Nat.zero_le _, Nat.zero_le _⟩ (fun H locs hW => ?_)
  show W p l e (rmq 4 93) s m args below meth c H locs 0 0 Q (F0 m 12 ls [])
  refine lv_iconst (v := 0) hx hb dX4_knowsThat_12 (by decide) ?_
  refine lv_istore (lv' := [(5, .int (0 : Int32)), (0, .ref (oa (3, 0))), (1, .ref (oa (13, j1))), (2, .int v2), (3, .int v3), (4, .int v4)]) hx hb dX4_knowsThat_13 hl (by decide) rfl (fun ls hl => ?_)
  have L15 : ∀ (μ : Mm) (v5 : Int32) (H : Heap) (locs : List Loc) (ls : Array Slot), Wh (fun z : Int32 => f_X4_knowsThat_L15 sh ln j1 v2 v3 μ z) (v5) = some res → Wd D (faB oa aa sh) (feB tc oa aa sh ln) A s.heap μ H locs → lv_has ls 6 [(0, .ref (oa (3, 0))), (1, .ref (oa (13, j1))), (2, .int v2), (3, .int v3), (5, .int v5)] → W p l e (rmq 4 93) s m args below meth c H locs 0 0 Q (F0 m 15 ls []) := by
    intro μ v5 H locs ls hf hW hl
    refine Wh_rule hf (fun z : Int32 => ∀ (H : Heap) (locs : List Loc) (ls : Array Slot), Wd D (faB oa aa sh) (feB tc oa aa sh ln) A s.heap μ H locs → lv_has ls 6 [(0, .ref (oa (3, 0))), (1, .ref (oa (13, j1))), (2, .int v2), (3, .int v3), (5, .int z)] → W p l e (rmq 4 93) s m args below meth c H locs 0 0 Q (F0 m 15 ls [])) (fun z o1 hf Kl1 Kr1 => ?_) _ _ _ hW hl
    obtain ⟨v5, ez⟩ : ∃ q, q = z := ⟨_, rfl⟩
    subst ez
    intro H locs ls hW hl
    have hf : f_X4_knowsThat_L15 sh ln j1 v2 v3 μ v5 = some o1 := hf
    unfold f_X4_knowsThat_L15 at hf
    have hW : Wd D (faB oa aa sh) (feB tc oa aa sh ln) A s.heap μ H locs := hW
    have hl : lv_has ls 6 [(0, .ref (oa (3, 0))), (1, .ref (oa (13, j1))), (2, .int v2), (3, .int v3), (5, .int v5)] := hl
    refine lv_iload hx hb dX4_knowsThat_15 (lv_at hl 4 rfl) ?_
    refine lv_aload_n hx hb dX4_knowsThat_17 rfl (lv_at hl 1 rfl) ?_
    refine gf_X4_52 C hW hj1 dX4_knowsThat_18 ?_
    refine lv_icmp_ge (tgt := 59) hx hb dX4_knowsThat_21 (by decide) (fun c1 => ?_) (fun c1 => ?_)
    · have hf := (if_pos c1).symm.trans hf
      obtain ⟨x9002, hf, hx9002⟩ := map_of hf
      have e9002 := (Kr1 _ hx9002.symm).symm
      subst e9002
      refine lv_iconst (v := 1) hx hb dX4_knowsThat_59 (by decide) ?_
      obtain rfl := Option.some.inj hf
      rw [hQ]
      exact r_zret C hr hk hW (Or.inr rfl) rfl rfl dX4_knowsThat_60
    · have hf := (if_neg c1).symm.trans hf
      refine lv_aload_n hx hb dX4_knowsThat_24 rfl (lv_at hl 0 rfl) ?_
      refine lv_aload_n hx hb dX4_knowsThat_25 rfl (lv_at hl 1 rfl) ?_
      refine lv_iload_n hx hb dX4_knowsThat_26 rfl (lv_at hl 2 rfl) ?_
      refine lv_iload hx hb dX4_knowsThat_27 (lv_at hl 4 rfl) ?_
      obtain ⟨x29, h29, hf⟩ := bd_of hf
      refine r_callV (k := ((3, 0) : Ky)) C hW hl lk_X4_91 (c_X4_holdsWorld hwf hj1 h29) ⟨rfl, rfl⟩ ⟨Nat.le_of_ble_eq_true rfl, Nat.le_of_ble_eq_true rfl⟩ rfl rfl rfl (As := [.ref (oa (13, j1)), .int v2, .int v5]) (rest := []) rfl rfl (Nat.le_of_ble_eq_true rfl) dX4_knowsThat_29 ⟨Nat.zero_le _, Nat.zero_le _⟩ (fun H locs hW => ?_)
      show W p l e (rmq 4 93) s m args below meth c H locs 0 0 Q (F0 m 32 ls [.int x29])
      refine lv_if_eq (tgt := 53) hx hb dX4_knowsThat_32 (by decide) (fun c3 => ?_) (fun c3 => ?_)
      · have hf := (if_pos c3).symm.trans hf
        refine lv_iinc (v := (v5 + (1 : Int32))) (lv' := [(5, .int (v5 + (1 : Int32))), (0, .ref (oa (3, 0))), (1, .ref (oa (13, j1))), (2, .int v2), (3, .int v3)]) hx hb dX4_knowsThat_53 hl (k := 4) rfl rfl (by decide) rfl (fun ls hl => ?_)
        refine lv_goto (tgt := 15) hx hb dX4_knowsThat_56 (by decide) ?_
        obtain rfl := Option.some.inj hf
        exact Kl1 _ rfl _ _ _ hW (lv_sub hl [1, 2, 3, 4, 0] rfl)
      · have hf := (if_neg c3).symm.trans hf
        refine lv_aload_n hx hb dX4_knowsThat_35 rfl (lv_at hl 0 rfl) ?_
        refine lv_aload_n hx hb dX4_knowsThat_36 rfl (lv_at hl 0 rfl) ?_
        refine lv_aload_n hx hb dX4_knowsThat_37 rfl (lv_at hl 1 rfl) ?_
        refine lv_iload_n hx hb dX4_knowsThat_38 rfl (lv_at hl 3 rfl) ?_
        refine lv_iload hx hb dX4_knowsThat_39 (lv_at hl 4 rfl) ?_
        obtain ⟨x41, h41, hf⟩ := bd_of hf
        refine r_callV (k := ((3, 0) : Ky)) C hW hl lk_X4_99 (c_X4_spotted hwf hj1 h41) ⟨rfl, rfl⟩ ⟨Nat.le_of_ble_eq_true rfl, Nat.le_of_ble_eq_true rfl⟩ rfl rfl rfl (As := [.ref (oa (13, j1)), .int v3, .int v5]) (rest := [.ref (oa (3, 0))]) rfl rfl (Nat.le_of_ble_eq_true rfl) dX4_knowsThat_41 ⟨Nat.zero_le _, Nat.zero_le _⟩ (fun H locs hW => ?_)
        show W p l e (rmq 4 93) s m args below meth c H locs 0 0 Q (F0 m 44 ls [.int x41, .ref (oa (3, 0))])
        obtain ⟨x44, h44, hf⟩ := bd_of hf
        refine r_callV (k := ((3, 0) : Ky)) C hW hl lk_X4_75 (c_X4_onlyOne h44) ⟨rfl, rfl⟩ ⟨Nat.le_of_ble_eq_true rfl, Nat.le_of_ble_eq_true rfl⟩ rfl rfl rfl (As := [.int x41]) (rest := []) rfl rfl (Nat.le_of_ble_eq_true rfl) dX4_knowsThat_44 ⟨Nat.zero_le _, Nat.zero_le _⟩ (fun H locs hW => ?_)
        show W p l e (rmq 4 93) s m args below meth c H locs 0 0 Q (F0 m 47 ls [.int x44])
        refine lv_iconst (v := -1) hx hb dX4_knowsThat_47 (by decide) ?_
        refine lv_icmp_ne (tgt := 53) hx hb dX4_knowsThat_48 (by decide) (fun c4 => ?_) (fun c4 => ?_)
        · have hf := (if_neg c4).symm.trans hf
          refine lv_iinc (v := (v5 + (1 : Int32))) (lv' := [(5, .int (v5 + (1 : Int32))), (0, .ref (oa (3, 0))), (1, .ref (oa (13, j1))), (2, .int v2), (3, .int v3)]) hx hb dX4_knowsThat_53 hl (k := 4) rfl rfl (by decide) rfl (fun ls hl => ?_)
          refine lv_goto (tgt := 15) hx hb dX4_knowsThat_56 (by decide) ?_
          obtain rfl := Option.some.inj hf
          exact Kl1 _ rfl _ _ _ hW (lv_sub hl [1, 2, 3, 4, 0] rfl)
        · have hf := (if_pos c4).symm.trans hf
          obtain ⟨x9005, hf, hx9005⟩ := map_of hf
          have e9005 := (Kr1 _ hx9005.symm).symm
          subst e9005
          refine lv_iconst (v := 0) hx hb dX4_knowsThat_51 (by decide) ?_
          obtain rfl := Option.some.inj hf
          rw [hQ]
          exact r_zret C hr hk hW (Or.inl rfl) rfl rfl dX4_knowsThat_52
  exact L15 x9 (0 : Int32) _ _ _ hf hW (lv_sub hl [1, 2, 3, 4, 0] rfl)
set_option maxHeartbeats 4000000 in
set_option maxRecDepth 100000 in
theorem c_X4_spread {l : Launch} {D : va_G} {tc : Nat → ClassId} {ro : Ro} {oa : Ky → Nat} {aa : Nat → Nat} {sh : Sh} {ln : Nat → Nat} {j1 : Nat} {μ : Mm} {v2 : Int32} {res : Int32 × Mm} (hwf : WfS sh) (hj1 : sh 2 j1 = 1) (hf : f_X4_spread sh ln j1 μ v2 = some res) : Ct l D tc ro (faB oa aa sh) (feB tc oa aa sh ln) yX4_spread cX4_spread 5 (some .boolean) (rmq 3 68) [.ref (oa (3, 0)), .ref (oa (13, j1)), .int v2] μ (some (.int res.1)) res.2 := by
  refine Ct.of (by decide) (Nat.le_of_ble_eq_true rfl) (fun p e s m args below meth c A C hr hk hW ls hl => ?_)
  have hx := C.1.1
  have hb := C.1.2.1
  obtain ⟨Q, hQ⟩ : ∃ Q, Q = MQ below (Ctq D (faB oa aa sh) (feB tc oa aa sh ln) (some (.int res.1)) res.2 A) args s 0 0 A := ⟨_, rfl⟩
  rw [← hQ]
  have hl : lv_has ls 5 [(0, .ref (oa (3, 0))), (1, .ref (oa (13, j1))), (2, .int v2)] := hl
  unfold f_X4_spread at hf
  refine lv_aload_n hx hb dX4_spread_0 rfl (lv_at hl 0 rfl) ?_
  refine gf_X4_22 C hW dX4_spread_1 ?_
  refine lv_iconst (v := 0) hx hb dX4_spread_4 (by decide) ?_
  refine lv_aload_n hx hb dX4_spread_5 rfl (lv_at hl 1 rfl) ?_
  refine gf_X4_52 C hW hj1 dX4_spread_6 ?_
  obtain ⟨x9, h9, hf⟩ := bd_of hf
  refine r_callV (k := ((11, 2) : Ky)) C hW hl lk_X4_103 (c_X1_fill hwf rfl h9) ⟨rfl, rfl⟩ ⟨Nat.le_of_ble_eq_true rfl, Nat.le_of_ble_eq_true rfl⟩ rfl (faB_11 rfl) rfl (As := [.int (0 : Int32), .int (μ (13, j1) 2)]) (rest := []) rfl rfl (Nat.le_of_ble_eq_true rfl) dX4_spread_9 ⟨Nat.zero_le _, Nat.zero_le _⟩ (fun H locs hW => ?_)
  show W p l e (rmq 3 68) s m args below meth c H locs 0 0 Q (F0 m 12 ls [])
  refine lv_iconst (v := 0) hx hb dX4_spread_12 (by decide) ?_
  refine lv_istore_n (lv' := [(3, .int (0 : Int32)), (0, .ref (oa (3, 0))), (1, .ref (oa (13, j1))), (2, .int v2)]) hx hb dX4_spread_13 rfl hl (by decide) rfl (fun ls hl => ?_)
  have L14 : ∀ (μ : Mm) (v3 : Int32) (H : Heap) (locs : List Loc) (ls : Array Slot), Wh (fun z : Mm × Int32 => f_X4_spread_L14 sh ln j1 v2 z.1 z.2) (μ, v3) = some res → Wd D (faB oa aa sh) (feB tc oa aa sh ln) A s.heap μ H locs → lv_has ls 5 [(0, .ref (oa (3, 0))), (1, .ref (oa (13, j1))), (2, .int v2), (3, .int v3)] → W p l e (rmq 3 68) s m args below meth c H locs 0 0 Q (F0 m 14 ls []) := by
    intro μ v3 H locs ls hf hW hl
    refine Wh_rule hf (fun z : Mm × Int32 => ∀ (H : Heap) (locs : List Loc) (ls : Array Slot), Wd D (faB oa aa sh) (feB tc oa aa sh ln) A s.heap z.1 H locs → lv_has ls 5 [(0, .ref (oa (3, 0))), (1, .ref (oa (13, j1))), (2, .int v2), (3, .int z.2)] → W p l e (rmq 3 68) s m args below meth c H locs 0 0 Q (F0 m 14 ls [])) (fun z o1 hf Kl1 Kr1 => ?_) _ _ _ hW hl
    obtain ⟨μ, v3⟩ := z
    intro H locs ls hW hl
    have hf : f_X4_spread_L14 sh ln j1 v2 μ v3 = some o1 := hf
    unfold f_X4_spread_L14 at hf
    have hW : Wd D (faB oa aa sh) (feB tc oa aa sh ln) A s.heap μ H locs := hW
    have hl : lv_has ls 5 [(0, .ref (oa (3, 0))), (1, .ref (oa (13, j1))), (2, .int v2), (3, .int v3)] := hl
    refine lv_iload_n hx hb dX4_spread_14 rfl (lv_at hl 3 rfl) ?_
    refine lv_aload_n hx hb dX4_spread_15 rfl (lv_at hl 1 rfl) ?_
    refine gf_X4_52 C hW hj1 dX4_spread_16 ?_
    refine lv_icmp_ge (tgt := 54) hx hb dX4_spread_19 (by decide) (fun c1 => ?_) (fun c1 => ?_)
    · have hf := (if_pos c1).symm.trans hf
      obtain ⟨x9008, hf, hx9008⟩ := map_of hf
      have e9008 := (Kr1 _ hx9008.symm).symm
      subst e9008
      refine lv_iconst (v := 0) hx hb dX4_spread_54 (by decide) ?_
      refine lv_istore_n (lv' := [(3, .int (0 : Int32)), (0, .ref (oa (3, 0))), (1, .ref (oa (13, j1))), (2, .int v2)]) hx hb dX4_spread_55 rfl hl (by decide) rfl (fun ls hl => ?_)
      refine lv_iconst (v := 0) hx hb dX4_spread_56 (by decide) ?_
      refine lv_istore (lv' := [(4, .int (0 : Int32)), (3, .int (0 : Int32)), (0, .ref (oa (3, 0))), (1, .ref (oa (13, j1))), (2, .int v2)]) hx hb dX4_spread_57 hl (by decide) rfl (fun ls hl => ?_)
      have L59 : ∀ (μ : Mm) (v3 v4 : Int32) (H : Heap) (locs : List Loc) (ls : Array Slot), Wh (fun z : Mm × Int32 × Int32 => f_X4_spread_L59 sh ln j1 v2 z.1 z.2.1 z.2.2) (μ, v3, v4) = some res → Wd D (faB oa aa sh) (feB tc oa aa sh ln) A s.heap μ H locs → lv_has ls 5 [(0, .ref (oa (3, 0))), (1, .ref (oa (13, j1))), (2, .int v2), (3, .int v3), (4, .int v4)] → W p l e (rmq 3 68) s m args below meth c H locs 0 0 Q (F0 m 59 ls []) := by
        intro μ v3 v4 H locs ls hf hW hl
        refine Wh_rule hf (fun z : Mm × Int32 × Int32 => ∀ (H : Heap) (locs : List Loc) (ls : Array Slot), Wd D (faB oa aa sh) (feB tc oa aa sh ln) A s.heap z.1 H locs → lv_has ls 5 [(0, .ref (oa (3, 0))), (1, .ref (oa (13, j1))), (2, .int v2), (3, .int z.2.1), (4, .int z.2.2)] → W p l e (rmq 3 68) s m args below meth c H locs 0 0 Q (F0 m 59 ls [])) (fun z o1 hf Kl1 Kr1 => ?_) _ _ _ hW hl
        obtain ⟨μ, v3, v4⟩ := z
        intro H locs ls hW hl
        have hf : f_X4_spread_L59 sh ln j1 v2 μ v3 v4 = some o1 := hf
        unfold f_X4_spread_L59 at hf
        have hW : Wd D (faB oa aa sh) (feB tc oa aa sh ln) A s.heap μ H locs := hW
        have hl : lv_has ls 5 [(0, .ref (oa (3, 0))), (1, .ref (oa (13, j1))), (2, .int v2), (3, .int v3), (4, .int v4)] := hl
        refine lv_iload hx hb dX4_spread_59 (lv_at hl 4 rfl) ?_
        refine lv_aload_n hx hb dX4_spread_61 rfl (lv_at hl 1 rfl) ?_
        refine gf_X4_52 C hW hj1 dX4_spread_62 ?_
        refine lv_icmp_ge (tgt := 119) hx hb dX4_spread_65 (by decide) (fun c2 => ?_) (fun c2 => ?_)
        · have hf := (if_pos c2).symm.trans hf
          obtain ⟨x9004, hf, hx9004⟩ := map_of hf
          have e9004 := (Kr1 _ hx9004.symm).symm
          subst e9004
          refine lv_iload_n hx hb dX4_spread_119 rfl (lv_at hl 3 rfl) ?_
          obtain ⟨hz3, hf⟩ := cb_of hf
          obtain rfl := Option.some.inj hf
          rw [hQ]
          exact r_zret C hr hk hW hz3 rfl rfl dX4_spread_120
        · have hf := (if_neg c2).symm.trans hf
          refine lv_aload_n hx hb dX4_spread_68 rfl (lv_at hl 1 rfl) ?_
          refine lv_iload hx hb dX4_spread_69 (lv_at hl 4 rfl) ?_
          obtain ⟨x71, h71, hf⟩ := bd_of hf
          refine r_callV (k := ((13, j1) : Ky)) C hW hl lk_X4_87 (c_X6_stands hwf hj1 h71) ⟨rfl, rfl⟩ ⟨Nat.le_of_ble_eq_true rfl, Nat.le_of_ble_eq_true rfl⟩ rfl (faB_13 hj1) rfl (As := [.int v4]) (rest := []) rfl rfl (Nat.le_of_ble_eq_true rfl) dX4_spread_71 ⟨Nat.zero_le _, Nat.zero_le _⟩ (fun H locs hW => ?_)
          show W p l e (rmq 3 68) s m args below meth c H locs 0 0 Q (F0 m 74 ls [.int x71])
          refine lv_if_eq (tgt := 113) hx hb dX4_spread_74 (by decide) (fun c5 => ?_) (fun c5 => ?_)
          · have hf := (if_pos c5).symm.trans hf
            refine lv_iinc (v := (v4 + (1 : Int32))) (lv' := [(4, .int (v4 + (1 : Int32))), (0, .ref (oa (3, 0))), (1, .ref (oa (13, j1))), (2, .int v2), (3, .int v3)]) hx hb dX4_spread_113 hl (k := 4) rfl rfl (by decide) rfl (fun ls hl => ?_)
            refine lv_goto (tgt := 59) hx hb dX4_spread_116 (by decide) ?_
            obtain rfl := Option.some.inj hf
            exact Kl1 _ rfl _ _ _ hW (lv_sub hl [1, 2, 3, 4, 0] rfl)
          · have hf := (if_neg c5).symm.trans hf
            refine lv_aload_n hx hb dX4_spread_77 rfl (lv_at hl 0 rfl) ?_
            refine gf_X4_31 C hW dX4_spread_78 ?_
            refine lv_iload hx hb dX4_spread_81 (lv_at hl 4 rfl) ?_
            obtain ⟨x83, h83, hf⟩ := bd_of hf
            refine r_callV (k := ((11, 5) : Ky)) C hW hl lk_X4_56 (c_X1_at hwf rfl h83) ⟨rfl, rfl⟩ ⟨Nat.le_of_ble_eq_true rfl, Nat.le_of_ble_eq_true rfl⟩ rfl (faB_11 rfl) rfl (As := [.int v4]) (rest := []) rfl rfl (Nat.le_of_ble_eq_true rfl) dX4_spread_83 ⟨Nat.zero_le _, Nat.zero_le _⟩ (fun H locs hW => ?_)
            show W p l e (rmq 3 68) s m args below meth c H locs 0 0 Q (F0 m 86 ls [.int x83])
            refine lv_if_ne (tgt := 113) hx hb dX4_spread_86 (by decide) (fun c6 => ?_) (fun c6 => ?_)
            · have hf := (if_neg c6).symm.trans hf
              refine lv_iinc (v := (v4 + (1 : Int32))) (lv' := [(4, .int (v4 + (1 : Int32))), (0, .ref (oa (3, 0))), (1, .ref (oa (13, j1))), (2, .int v2), (3, .int v3)]) hx hb dX4_spread_113 hl (k := 4) rfl rfl (by decide) rfl (fun ls hl => ?_)
              refine lv_goto (tgt := 59) hx hb dX4_spread_116 (by decide) ?_
              obtain rfl := Option.some.inj hf
              exact Kl1 _ rfl _ _ _ hW (lv_sub hl [1, 2, 3, 4, 0] rfl)
            · have hf := (if_pos c6).symm.trans hf
              refine lv_aload_n hx hb dX4_spread_89 rfl (lv_at hl 0 rfl) ?_
              refine lv_aload_n hx hb dX4_spread_90 rfl (lv_at hl 1 rfl) ?_
              refine lv_iload_n hx hb dX4_spread_91 rfl (lv_at hl 2 rfl) ?_
              refine lv_iload hx hb dX4_spread_92 (lv_at hl 4 rfl) ?_
              obtain ⟨x94, h94, hf⟩ := bd_of hf
              refine r_callV (k := ((3, 0) : Ky)) C hW hl lk_X4_99 (c_X4_spotted hwf hj1 h94) ⟨rfl, rfl⟩ ⟨Nat.le_of_ble_eq_true rfl, Nat.le_of_ble_eq_true rfl⟩ rfl rfl rfl (As := [.ref (oa (13, j1)), .int v2, .int v4]) (rest := []) rfl rfl (Nat.le_of_ble_eq_true rfl) dX4_spread_94 ⟨Nat.zero_le _, Nat.zero_le _⟩ (fun H locs hW => ?_)
              show W p l e (rmq 3 68) s m args below meth c H locs 0 0 Q (F0 m 97 ls [.int x94])
              refine lv_iconst (v := 1) hx hb dX4_spread_97 (by decide) ?_
              refine lv_icmp_ne (tgt := 113) hx hb dX4_spread_98 (by decide) (fun c7 => ?_) (fun c7 => ?_)
              · have hf := (if_neg c7).symm.trans hf
                refine lv_iinc (v := (v4 + (1 : Int32))) (lv' := [(4, .int (v4 + (1 : Int32))), (0, .ref (oa (3, 0))), (1, .ref (oa (13, j1))), (2, .int v2), (3, .int v3)]) hx hb dX4_spread_113 hl (k := 4) rfl rfl (by decide) rfl (fun ls hl => ?_)
                refine lv_goto (tgt := 59) hx hb dX4_spread_116 (by decide) ?_
                obtain rfl := Option.some.inj hf
                exact Kl1 _ rfl _ _ _ hW (lv_sub hl [1, 2, 3, 4, 0] rfl)
              · have hf := (if_pos c7).symm.trans hf
                refine lv_aload_n hx hb dX4_spread_101 rfl (lv_at hl 0 rfl) ?_
                refine gf_X4_31 C hW dX4_spread_102 ?_
                refine lv_iload hx hb dX4_spread_105 (lv_at hl 4 rfl) ?_
                refine lv_iconst (v := 1) hx hb dX4_spread_107 (by decide) ?_
                obtain ⟨x108, h108, hf⟩ := bd_of hf
                refine r_callV (k := ((11, 5) : Ky)) C hW hl lk_X4_110 (c_X1_put hwf rfl h108) ⟨rfl, rfl⟩ ⟨Nat.le_of_ble_eq_true rfl, Nat.le_of_ble_eq_true rfl⟩ rfl (faB_11 rfl) rfl (As := [.int v4, .int (1 : Int32)]) (rest := []) rfl rfl (Nat.le_of_ble_eq_true rfl) dX4_spread_108 ⟨Nat.zero_le _, Nat.zero_le _⟩ (fun H locs hW => ?_)
                show W p l e (rmq 3 68) s m args below meth c H locs 0 0 Q (F0 m 111 ls [])
                refine lv_iconst (v := 1) hx hb dX4_spread_111 (by decide) ?_
                refine lv_istore_n (lv' := [(3, .int (1 : Int32)), (0, .ref (oa (3, 0))), (1, .ref (oa (13, j1))), (2, .int v2), (4, .int v4)]) hx hb dX4_spread_112 rfl hl (by decide) rfl (fun ls hl => ?_)
                refine lv_iinc (v := (v4 + (1 : Int32))) (lv' := [(4, .int (v4 + (1 : Int32))), (3, .int (1 : Int32)), (0, .ref (oa (3, 0))), (1, .ref (oa (13, j1))), (2, .int v2)]) hx hb dX4_spread_113 hl (k := 4) rfl rfl (by decide) rfl (fun ls hl => ?_)
                refine lv_goto (tgt := 59) hx hb dX4_spread_116 (by decide) ?_
                obtain rfl := Option.some.inj hf
                exact Kl1 _ rfl _ _ _ hW (lv_sub hl [2, 3, 4, 1, 0] rfl)
      exact L59 μ (0 : Int32) (0 : Int32) _ _ _ hf hW (lv_sub hl [2, 3, 4, 1, 0] rfl)
    · have hf := (if_neg c1).symm.trans hf
      refine lv_aload_n hx hb dX4_spread_22 rfl (lv_at hl 0 rfl) ?_
      refine gf_X4_31 C hW dX4_spread_23 ?_
      refine lv_iload_n hx hb dX4_spread_26 rfl (lv_at hl 3 rfl) ?_
      obtain ⟨x27, h27, hf⟩ := bd_of hf
      refine r_callV (k := ((11, 5) : Ky)) C hW hl lk_X4_56 (c_X1_at hwf rfl h27) ⟨rfl, rfl⟩ ⟨Nat.le_of_ble_eq_true rfl, Nat.le_of_ble_eq_true rfl⟩ rfl (faB_11 rfl) rfl (As := [.int v3]) (rest := []) rfl rfl (Nat.le_of_ble_eq_true rfl) dX4_spread_27 ⟨Nat.zero_le _, Nat.zero_le _⟩ (fun H locs hW => ?_)
      show W p l e (rmq 3 68) s m args below meth c H locs 0 0 Q (F0 m 30 ls [.int x27])
      refine lv_iconst (v := 1) hx hb dX4_spread_30 (by decide) ?_
      refine lv_icmp_ne (tgt := 48) hx hb dX4_spread_31 (by decide) (fun c9 => ?_) (fun c9 => ?_)
      · have hf := (if_neg c9).symm.trans hf
        refine lv_iinc (v := (v3 + (1 : Int32))) (lv' := [(3, .int (v3 + (1 : Int32))), (0, .ref (oa (3, 0))), (1, .ref (oa (13, j1))), (2, .int v2)]) hx hb dX4_spread_48 hl (k := 3) rfl rfl (by decide) rfl (fun ls hl => ?_)
        refine lv_goto (tgt := 14) hx hb dX4_spread_51 (by decide) ?_
        obtain rfl := Option.some.inj hf
        exact Kl1 _ rfl _ _ _ hW (lv_sub hl [1, 2, 3, 0] rfl)
      · have hf := (if_pos c9).symm.trans hf
        refine lv_aload_n hx hb dX4_spread_34 rfl (lv_at hl 0 rfl) ?_
        refine gf_X4_22 C hW dX4_spread_35 ?_
        refine lv_aload_n hx hb dX4_spread_38 rfl (lv_at hl 1 rfl) ?_
        refine lv_iload_n hx hb dX4_spread_39 rfl (lv_at hl 2 rfl) ?_
        refine lv_iload_n hx hb dX4_spread_40 rfl (lv_at hl 3 rfl) ?_
        obtain ⟨x41, h41, hf⟩ := bd_of hf
        refine r_callV (k := ((13, j1) : Ky)) C hW hl lk_X4_48 (c_X6_group hwf hj1 h41) ⟨rfl, rfl⟩ ⟨Nat.le_of_ble_eq_true rfl, Nat.le_of_ble_eq_true rfl⟩ rfl (faB_13 hj1) rfl (As := [.int v2, .int v3]) (rest := [.ref (oa (11, 2))]) rfl rfl (Nat.le_of_ble_eq_true rfl) dX4_spread_41 ⟨Nat.zero_le _, Nat.zero_le _⟩ (fun H locs hW => ?_)
        show W p l e (rmq 3 68) s m args below meth c H locs 0 0 Q (F0 m 44 ls [.int x41, .ref (oa (11, 2))])
        refine lv_iconst (v := 1) hx hb dX4_spread_44 (by decide) ?_
        obtain ⟨x45, h45, hf⟩ := bd_of hf
        refine r_callV (k := ((11, 2) : Ky)) C hW hl lk_X4_110 (c_X1_put hwf rfl h45) ⟨rfl, rfl⟩ ⟨Nat.le_of_ble_eq_true rfl, Nat.le_of_ble_eq_true rfl⟩ rfl (faB_11 rfl) rfl (As := [.int x41, .int (1 : Int32)]) (rest := []) rfl rfl (Nat.le_of_ble_eq_true rfl) dX4_spread_45 ⟨Nat.zero_le _, Nat.zero_le _⟩ (fun H locs hW => ?_)
        show W p l e (rmq 3 68) s m args below meth c H locs 0 0 Q (F0 m 48 ls [])
        refine lv_iinc (v := (v3 + (1 : Int32))) (lv' := [(3, .int (v3 + (1 : Int32))), (0, .ref (oa (3, 0))), (1, .ref (oa (13, j1))), (2, .int v2)]) hx hb dX4_spread_48 hl (k := 3) rfl rfl (by decide) rfl (fun ls hl => ?_)
        refine lv_goto (tgt := 14) hx hb dX4_spread_51 (by decide) ?_
        obtain rfl := Option.some.inj hf
        exact Kl1 _ rfl _ _ _ hW (lv_sub hl [1, 2, 3, 0] rfl)
  exact L14 x9 (0 : Int32) _ _ _ hf hW (lv_sub hl [1, 2, 3, 0] rfl)
set_option maxHeartbeats 4000000 in
set_option maxRecDepth 100000 in
theorem c_X4_knownByAll {l : Launch} {D : va_G} {tc : Nat → ClassId} {ro : Ro} {oa : Ky → Nat} {aa : Nat → Nat} {sh : Sh} {ln : Nat → Nat} {j1 : Nat} {μ : Mm} {v2 : Int32} {res : Int32 × Mm} (hwf : WfS sh) (hj1 : sh 2 j1 = 1) (hf : f_X4_knownByAll sh ln j1 μ v2 = some res) : Ct l D tc ro (faB oa aa sh) (feB tc oa aa sh ln) yX4_knownByAll cX4_knownByAll 6 (some .int) (rmq 4 92) [.ref (oa (3, 0)), .ref (oa (13, j1)), .int v2] μ (some (.int res.1)) res.2 := by
  refine Ct.of (by decide) (Nat.le_of_ble_eq_true rfl) (fun p e s m args below meth c A C hr hk hW ls hl => ?_)
  have hx := C.1.1
  have hb := C.1.2.1
  obtain ⟨Q, hQ⟩ : ∃ Q, Q = MQ below (Ctq D (faB oa aa sh) (feB tc oa aa sh ln) (some (.int res.1)) res.2 A) args s 0 0 A := ⟨_, rfl⟩
  rw [← hQ]
  have hl : lv_has ls 6 [(0, .ref (oa (3, 0))), (1, .ref (oa (13, j1))), (2, .int v2)] := hl
  unfold f_X4_knownByAll at hf
  have J78 : ∀ (μ : Mm) (H : Heap) (locs : List Loc) (ls : Array Slot), f_X4_knownByAll_J78 sh ln j1 μ v2 = some res → Wd D (faB oa aa sh) (feB tc oa aa sh ln) A s.heap μ H locs → lv_has ls 6 [(0, .ref (oa (3, 0))), (1, .ref (oa (13, j1))), (2, .int v2)] → W p l e (rmq 4 92) s m args below meth c H locs 0 0 Q (F0 m 78 ls []) := by
    intro μ H locs ls hf hW hl
    unfold f_X4_knownByAll_J78 at hf
    refine lv_iconst (v := 0) hx hb dX4_knownByAll_78 (by decide) ?_
    refine lv_istore (lv' := [(4, .int (0 : Int32)), (0, .ref (oa (3, 0))), (1, .ref (oa (13, j1))), (2, .int v2)]) hx hb dX4_knownByAll_79 hl (by decide) rfl (fun ls hl => ?_)
    refine lv_iconst (v := 0) hx hb dX4_knownByAll_81 (by decide) ?_
    refine lv_istore (lv' := [(5, .int (0 : Int32)), (4, .int (0 : Int32)), (0, .ref (oa (3, 0))), (1, .ref (oa (13, j1))), (2, .int v2)]) hx hb dX4_knownByAll_82 hl (by decide) rfl (fun ls hl => ?_)
    have L84 : ∀ (μ : Mm) (v4 v5 : Int32) (H : Heap) (locs : List Loc) (ls : Array Slot), Wh (fun z : Int32 × Int32 => f_X4_knownByAll_L84 sh ln j1 v2 μ z.1 z.2) (v4, v5) = some res → Wd D (faB oa aa sh) (feB tc oa aa sh ln) A s.heap μ H locs → lv_has ls 6 [(0, .ref (oa (3, 0))), (1, .ref (oa (13, j1))), (2, .int v2), (4, .int v4), (5, .int v5)] → W p l e (rmq 4 92) s m args below meth c H locs 0 0 Q (F0 m 84 ls []) := by
      intro μ v4 v5 H locs ls hf hW hl
      refine Wh_rule hf (fun z : Int32 × Int32 => ∀ (H : Heap) (locs : List Loc) (ls : Array Slot), Wd D (faB oa aa sh) (feB tc oa aa sh ln) A s.heap μ H locs → lv_has ls 6 [(0, .ref (oa (3, 0))), (1, .ref (oa (13, j1))), (2, .int v2), (4, .int z.1), (5, .int z.2)] → W p l e (rmq 4 92) s m args below meth c H locs 0 0 Q (F0 m 84 ls [])) (fun z o1 hf Kl1 Kr1 => ?_) _ _ _ hW hl
      obtain ⟨v4, v5⟩ := z
      intro H locs ls hW hl
      have hf : f_X4_knownByAll_L84 sh ln j1 v2 μ v4 v5 = some o1 := hf
      unfold f_X4_knownByAll_L84 at hf
      have hW : Wd D (faB oa aa sh) (feB tc oa aa sh ln) A s.heap μ H locs := hW
      have hl : lv_has ls 6 [(0, .ref (oa (3, 0))), (1, .ref (oa (13, j1))), (2, .int v2), (4, .int v4), (5, .int v5)] := hl
      refine lv_iload hx hb dX4_knownByAll_84 (lv_at hl 4 rfl) ?_
      refine lv_aload_n hx hb dX4_knownByAll_86 rfl (lv_at hl 1 rfl) ?_
      refine gf_X4_52 C hW hj1 dX4_knownByAll_87 ?_
      refine lv_icmp_ge (tgt := 126) hx hb dX4_knownByAll_90 (by decide) (fun c1 => ?_) (fun c1 => ?_)
      · have hf := (if_pos c1).symm.trans hf
        obtain ⟨x9002, hf, hx9002⟩ := map_of hf
        have e9002 := (Kr1 _ hx9002.symm).symm
        subst e9002
        refine lv_aload_n hx hb dX4_knownByAll_126 rfl (lv_at hl 0 rfl) ?_
        refine lv_iload hx hb dX4_knownByAll_127 (lv_at hl 3 rfl) ?_
        obtain ⟨x129, h129, hf⟩ := bd_of hf
        refine r_callV (k := ((3, 0) : Ky)) C hW hl lk_X4_75 (c_X4_onlyOne h129) ⟨rfl, rfl⟩ ⟨Nat.le_of_ble_eq_true rfl, Nat.le_of_ble_eq_true rfl⟩ rfl rfl rfl (As := [.int v4]) (rest := []) rfl rfl (Nat.le_of_ble_eq_true rfl) dX4_knownByAll_129 ⟨Nat.zero_le _, Nat.zero_le _⟩ (fun H locs hW => ?_)
        show W p l e (rmq 4 92) s m args below meth c H locs 0 0 Q (F0 m 132 ls [.int x129])
        obtain rfl := Option.some.inj hf
        rw [hQ]
        exact r_iret C hr hk hW rfl rfl dX4_knownByAll_132
      · have hf := (if_neg c1).symm.trans hf
        refine lv_aload_n hx hb dX4_knownByAll_93 rfl (lv_at hl 0 rfl) ?_
        refine gf_X4_31 C hW dX4_knownByAll_94 ?_
        refine lv_iload hx hb dX4_knownByAll_97 (lv_at hl 4 rfl) ?_
        obtain ⟨x99, h99, hf⟩ := bd_of hf
        refine r_callV (k := ((11, 5) : Ky)) C hW hl lk_X4_56 (c_X1_at hwf rfl h99) ⟨rfl, rfl⟩ ⟨Nat.le_of_ble_eq_true rfl, Nat.le_of_ble_eq_true rfl⟩ rfl (faB_11 rfl) rfl (As := [.int v5]) (rest := []) rfl rfl (Nat.le_of_ble_eq_true rfl) dX4_knownByAll_99 ⟨Nat.zero_le _, Nat.zero_le _⟩ (fun H locs hW => ?_)
        show W p l e (rmq 4 92) s m args below meth c H locs 0 0 Q (F0 m 102 ls [.int x99])
        refine lv_iconst (v := 1) hx hb dX4_knownByAll_102 (by decide) ?_
        refine lv_icmp_ne (tgt := 120) hx hb dX4_knownByAll_103 (by decide) (fun c3 => ?_) (fun c3 => ?_)
        · have hf := (if_neg c3).symm.trans hf
          refine lv_iinc (v := (v5 + (1 : Int32))) (lv' := [(5, .int (v5 + (1 : Int32))), (0, .ref (oa (3, 0))), (1, .ref (oa (13, j1))), (2, .int v2), (4, .int v4)]) hx hb dX4_knownByAll_120 hl (k := 4) rfl rfl (by decide) rfl (fun ls hl => ?_)
          refine lv_goto (tgt := 84) hx hb dX4_knownByAll_123 (by decide) ?_
          obtain rfl := Option.some.inj hf
          exact Kl1 _ rfl _ _ _ hW (lv_sub hl [1, 2, 3, 4, 0] rfl)
        · have hf := (if_pos c3).symm.trans hf
          refine lv_iload hx hb dX4_knownByAll_106 (lv_at hl 3 rfl) ?_
          refine lv_iconst (v := 1) hx hb dX4_knownByAll_108 (by decide) ?_
          refine lv_aload_n hx hb dX4_knownByAll_109 rfl (lv_at hl 1 rfl) ?_
          refine lv_iload hx hb dX4_knownByAll_110 (lv_at hl 4 rfl) ?_
          refine lv_iload_n hx hb dX4_knownByAll_112 rfl (lv_at hl 2 rfl) ?_
          obtain ⟨x113, h113, hf⟩ := bd_of hf
          refine r_callV (k := ((13, j1) : Ky)) C hW hl lk_X4_60 (c_X6_figure hwf hj1 h113) ⟨rfl, rfl⟩ ⟨Nat.le_of_ble_eq_true rfl, Nat.le_of_ble_eq_true rfl⟩ rfl (faB_13 hj1) rfl (As := [.int v5, .int v2]) (rest := [.int (1 : Int32), .int v4]) rfl rfl (Nat.le_of_ble_eq_true rfl) dX4_knownByAll_113 ⟨Nat.zero_le _, Nat.zero_le _⟩ (fun H locs hW => ?_)
          show W p l e (rmq 4 92) s m args below meth c H locs 0 0 Q (F0 m 116 ls [.int x113, .int (1 : Int32), .int v4])
          refine lv_ishl hx hb dX4_knownByAll_116 ?_
          refine lv_ior hx hb dX4_knownByAll_117 ?_
          refine lv_istore (lv' := [(4, .int (v4 ||| ((1 : Int32) <<< (x113 &&& 31)))), (0, .ref (oa (3, 0))), (1, .ref (oa (13, j1))), (2, .int v2), (5, .int v5)]) hx hb dX4_knownByAll_118 hl (by decide) rfl (fun ls hl => ?_)
          refine lv_iinc (v := (v5 + (1 : Int32))) (lv' := [(5, .int (v5 + (1 : Int32))), (4, .int (v4 ||| ((1 : Int32) <<< (x113 &&& 31)))), (0, .ref (oa (3, 0))), (1, .ref (oa (13, j1))), (2, .int v2)]) hx hb dX4_knownByAll_120 hl (k := 4) rfl rfl (by decide) rfl (fun ls hl => ?_)
          refine lv_goto (tgt := 84) hx hb dX4_knownByAll_123 (by decide) ?_
          obtain rfl := Option.some.inj hf
          exact Kl1 _ rfl _ _ _ hW (lv_sub hl [2, 3, 4, 1, 0] rfl)
    exact L84 μ (0 : Int32) (0 : Int32) _ _ _ hf hW (lv_sub hl [2, 3, 4, 1, 0] rfl)
  refine lv_aload_n hx hb dX4_knownByAll_0 rfl (lv_at hl 0 rfl) ?_
  refine gf_X4_31 C hW dX4_knownByAll_1 ?_
  refine lv_iconst (v := 0) hx hb dX4_knownByAll_4 (by decide) ?_
  refine lv_aload_n hx hb dX4_knownByAll_5 rfl (lv_at hl 1 rfl) ?_
  refine gf_X4_52 C hW hj1 dX4_knownByAll_6 ?_
  obtain ⟨x9, h9, hf⟩ := bd_of hf
  refine r_callV (k := ((11, 5) : Ky)) C hW hl lk_X4_103 (c_X1_fill hwf rfl h9) ⟨rfl, rfl⟩ ⟨Nat.le_of_ble_eq_true rfl, Nat.le_of_ble_eq_true rfl⟩ rfl (faB_11 rfl) rfl (As := [.int (0 : Int32), .int (μ (13, j1) 2)]) (rest := []) rfl rfl (Nat.le_of_ble_eq_true rfl) dX4_knownByAll_9 ⟨Nat.zero_le _, Nat.zero_le _⟩ (fun H locs hW => ?_)
  show W p l e (rmq 4 92) s m args below meth c H locs 0 0 Q (F0 m 12 ls [])
  refine lv_aload_n hx hb dX4_knownByAll_12 rfl (lv_at hl 0 rfl) ?_
  refine gf_X4_31 C hW dX4_knownByAll_13 ?_
  refine lv_aload_n hx hb dX4_knownByAll_16 rfl (lv_at hl 1 rfl) ?_
  refine gf_X4_81 C hW hj1 dX4_knownByAll_17 ?_
  refine lv_iconst (v := 1) hx hb dX4_knownByAll_20 (by decide) ?_
  obtain ⟨x21, h21, hf⟩ := bd_of hf
  refine r_callV (k := ((11, 5) : Ky)) C hW hl lk_X4_110 (c_X1_put hwf rfl h21) ⟨rfl, rfl⟩ ⟨Nat.le_of_ble_eq_true rfl, Nat.le_of_ble_eq_true rfl⟩ rfl (faB_11 rfl) rfl (As := [.int (x9 (13, j1) 3), .int (1 : Int32)]) (rest := []) rfl rfl (Nat.le_of_ble_eq_true rfl) dX4_knownByAll_21 ⟨Nat.zero_le _, Nat.zero_le _⟩ (fun H locs hW => ?_)
  show W p l e (rmq 4 92) s m args below meth c H locs 0 0 Q (F0 m 24 ls [])
  refine lv_iconst (v := 1) hx hb dX4_knownByAll_24 (by decide) ?_
  refine lv_istore_n (lv' := [(3, .int (1 : Int32)), (0, .ref (oa (3, 0))), (1, .ref (oa (13, j1))), (2, .int v2)]) hx hb dX4_knownByAll_25 rfl hl (by decide) rfl (fun ls hl => ?_)
  refine lv_iconst (v := 0) hx hb dX4_knownByAll_26 (by decide) ?_
  refine lv_istore (lv' := [(4, .int (0 : Int32)), (3, .int (1 : Int32)), (0, .ref (oa (3, 0))), (1, .ref (oa (13, j1))), (2, .int v2)]) hx hb dX4_knownByAll_27 hl (by decide) rfl (fun ls hl => ?_)
  have L29 : ∀ (μ : Mm) (v3 v4 : Int32) (H : Heap) (locs : List Loc) (ls : Array Slot), Wh (fun z : Mm × Int32 × Int32 => f_X4_knownByAll_L29 sh ln j1 v2 z.1 z.2.1 z.2.2) (μ, v3, v4) = some res → Wd D (faB oa aa sh) (feB tc oa aa sh ln) A s.heap μ H locs → lv_has ls 6 [(0, .ref (oa (3, 0))), (1, .ref (oa (13, j1))), (2, .int v2), (3, .int v3), (4, .int v4)] → W p l e (rmq 4 92) s m args below meth c H locs 0 0 Q (F0 m 29 ls []) := by
    intro μ v3 v4 H locs ls hf hW hl
    refine Wh_rule hf (fun z : Mm × Int32 × Int32 => ∀ (H : Heap) (locs : List Loc) (ls : Array Slot), Wd D (faB oa aa sh) (feB tc oa aa sh ln) A s.heap z.1 H locs → lv_has ls 6 [(0, .ref (oa (3, 0))), (1, .ref (oa (13, j1))), (2, .int v2), (3, .int z.2.1), (4, .int z.2.2)] → W p l e (rmq 4 92) s m args below meth c H locs 0 0 Q (F0 m 29 ls [])) (fun z o1 hf Kl1 Kr1 => ?_) _ _ _ hW hl
    obtain ⟨μ, v3, v4⟩ := z
    intro H locs ls hW hl
    have hf : f_X4_knownByAll_L29 sh ln j1 v2 μ v3 v4 = some o1 := hf
    unfold f_X4_knownByAll_L29 at hf
    have hW : Wd D (faB oa aa sh) (feB tc oa aa sh ln) A s.heap μ H locs := hW
    have hl : lv_has ls 6 [(0, .ref (oa (3, 0))), (1, .ref (oa (13, j1))), (2, .int v2), (3, .int v3), (4, .int v4)] := hl
    refine lv_iload hx hb dX4_knownByAll_29 (lv_at hl 4 rfl) ?_
    refine lv_aload_n hx hb dX4_knownByAll_31 rfl (lv_at hl 1 rfl) ?_
    refine gf_X4_52 C hW hj1 dX4_knownByAll_32 ?_
    refine lv_icmp_ge (tgt := 78) hx hb dX4_knownByAll_35 (by decide) (fun c4 => ?_) (fun c4 => ?_)
    · have hf := (if_pos c4).symm.trans hf
      obtain ⟨x9005, hf, hx9005⟩ := map_of hf
      have e9005 := (Kr1 _ hx9005.symm).symm
      subst e9005
      exact J78 μ _ _ _ hf hW (lv_sub hl [0, 1, 2] rfl)
    · have hf := (if_neg c4).symm.trans hf
      refine lv_iload_n hx hb dX4_knownByAll_38 rfl (lv_at hl 3 rfl) ?_
      refine lv_if_eq (tgt := 78) hx hb dX4_knownByAll_39 (by decide) (fun c6 => ?_) (fun c6 => ?_)
      · have hf := (if_pos c6).symm.trans hf
        obtain ⟨x9007, hf, hx9007⟩ := map_of hf
        have e9007 := (Kr1 _ hx9007.symm).symm
        subst e9007
        exact J78 μ _ _ _ hf hW (lv_sub hl [0, 1, 2] rfl)
      · have hf := (if_neg c6).symm.trans hf
        refine lv_iconst (v := 0) hx hb dX4_knownByAll_42 (by decide) ?_
        refine lv_istore_n (lv' := [(3, .int (0 : Int32)), (0, .ref (oa (3, 0))), (1, .ref (oa (13, j1))), (2, .int v2), (4, .int v4)]) hx hb dX4_knownByAll_43 rfl hl (by decide) rfl (fun ls hl => ?_)
        refine lv_iconst (v := 0) hx hb dX4_knownByAll_44 (by decide) ?_
        refine lv_istore (lv' := [(5, .int (0 : Int32)), (3, .int (0 : Int32)), (0, .ref (oa (3, 0))), (1, .ref (oa (13, j1))), (2, .int v2), (4, .int v4)]) hx hb dX4_knownByAll_45 hl (by decide) rfl (fun ls hl => ?_)
        have L47 : ∀ (μ : Mm) (v3 v4 v5 : Int32) (H : Heap) (locs : List Loc) (ls : Array Slot), Wh (fun z : Mm × Int32 × Int32 => f_X4_knownByAll_L47 sh ln j1 v2 v4 z.1 z.2.1 z.2.2) (μ, v3, v5) = some o1 → Wd D (faB oa aa sh) (feB tc oa aa sh ln) A s.heap μ H locs → lv_has ls 6 [(0, .ref (oa (3, 0))), (1, .ref (oa (13, j1))), (2, .int v2), (3, .int v3), (4, .int v4), (5, .int v5)] → W p l e (rmq 4 92) s m args below meth c H locs 0 0 Q (F0 m 47 ls []) := by
          intro μ v3 v4 v5 H locs ls hf hW hl
          refine Wh_rule hf (fun z : Mm × Int32 × Int32 => ∀ (H : Heap) (locs : List Loc) (ls : Array Slot), Wd D (faB oa aa sh) (feB tc oa aa sh ln) A s.heap z.1 H locs → lv_has ls 6 [(0, .ref (oa (3, 0))), (1, .ref (oa (13, j1))), (2, .int v2), (3, .int z.2.1), (4, .int v4), (5, .int z.2.2)] → W p l e (rmq 4 92) s m args below meth c H locs 0 0 Q (F0 m 47 ls [])) (fun z o2 hf Kl2 Kr2 => ?_) _ _ _ hW hl
          obtain ⟨μ, v3, v5⟩ := z
          intro H locs ls hW hl
          have hf : f_X4_knownByAll_L47 sh ln j1 v2 v4 μ v3 v5 = some o2 := hf
          unfold f_X4_knownByAll_L47 at hf
          have hW : Wd D (faB oa aa sh) (feB tc oa aa sh ln) A s.heap μ H locs := hW
          have hl : lv_has ls 6 [(0, .ref (oa (3, 0))), (1, .ref (oa (13, j1))), (2, .int v2), (3, .int v3), (4, .int v4), (5, .int v5)] := hl
          refine lv_iload hx hb dX4_knownByAll_47 (lv_at hl 5 rfl) ?_
          refine lv_aload_n hx hb dX4_knownByAll_49 rfl (lv_at hl 1 rfl) ?_
          refine gf_X4_78 C hW hj1 dX4_knownByAll_50 ?_
          refine lv_icmp_ge (tgt := 72) hx hb dX4_knownByAll_53 (by decide) (fun c8 => ?_) (fun c8 => ?_)
          · have hf := (if_pos c8).symm.trans hf
            obtain ⟨x9009, hf, hx9009⟩ := map_of hf
            have e9009 := (Kr2 _ hx9009.symm).symm
            subst e9009
            refine lv_iinc (v := (v4 + (1 : Int32))) (lv' := [(4, .int (v4 + (1 : Int32))), (0, .ref (oa (3, 0))), (1, .ref (oa (13, j1))), (2, .int v2), (3, .int v3), (5, .int v5)]) hx hb dX4_knownByAll_72 hl (k := 4) rfl rfl (by decide) rfl (fun ls hl => ?_)
            refine lv_goto (tgt := 29) hx hb dX4_knownByAll_75 (by decide) ?_
            obtain rfl := Option.some.inj hf
            exact Kl1 _ rfl _ _ _ hW (lv_sub hl [1, 2, 3, 4, 0] rfl)
          · have hf := (if_neg c8).symm.trans hf
            refine lv_iload_n hx hb dX4_knownByAll_56 rfl (lv_at hl 3 rfl) ?_
            refine lv_aload_n hx hb dX4_knownByAll_57 rfl (lv_at hl 0 rfl) ?_
            refine lv_aload_n hx hb dX4_knownByAll_58 rfl (lv_at hl 1 rfl) ?_
            refine lv_iload hx hb dX4_knownByAll_59 (lv_at hl 5 rfl) ?_
            obtain ⟨x61, h61, hf⟩ := bd_of hf
            refine r_callV (k := ((3, 0) : Ky)) C hW hl lk_X4_113 (c_X4_spread hwf hj1 h61) ⟨rfl, rfl⟩ ⟨Nat.le_of_ble_eq_true rfl, Nat.le_of_ble_eq_true rfl⟩ rfl rfl rfl (As := [.ref (oa (13, j1)), .int v5]) (rest := [.int v3]) rfl rfl (Nat.le_of_ble_eq_true rfl) dX4_knownByAll_61 ⟨Nat.zero_le _, Nat.zero_le _⟩ (fun H locs hW => ?_)
            show W p l e (rmq 4 92) s m args below meth c H locs 0 0 Q (F0 m 64 ls [.int x61.1, .int v3])
            refine lv_ior hx hb dX4_knownByAll_64 ?_
            refine lv_istore_n (lv' := [(3, .int (v3 ||| x61.1)), (0, .ref (oa (3, 0))), (1, .ref (oa (13, j1))), (2, .int v2), (4, .int v4), (5, .int v5)]) hx hb dX4_knownByAll_65 rfl hl (by decide) rfl (fun ls hl => ?_)
            refine lv_iinc (v := (v5 + (1 : Int32))) (lv' := [(5, .int (v5 + (1 : Int32))), (3, .int (v3 ||| x61.1)), (0, .ref (oa (3, 0))), (1, .ref (oa (13, j1))), (2, .int v2), (4, .int v4)]) hx hb dX4_knownByAll_66 hl (k := 5) rfl rfl (by decide) rfl (fun ls hl => ?_)
            refine lv_goto (tgt := 47) hx hb dX4_knownByAll_69 (by decide) ?_
            obtain rfl := Option.some.inj hf
            exact Kl2 _ rfl _ _ _ hW (lv_sub hl [2, 3, 4, 1, 5, 0] rfl)
        exact L47 μ (0 : Int32) v4 (0 : Int32) _ _ _ hf hW (lv_sub hl [2, 3, 4, 1, 5, 0] rfl)
  exact L29 x21 (1 : Int32) (0 : Int32) _ _ _ hf hW (lv_sub hl [2, 3, 4, 1, 0] rfl)
set_option maxHeartbeats 4000000 in
set_option maxRecDepth 100000 in
theorem c_X4_sayNotice {l : Launch} {D : va_G} {tc : Nat → ClassId} {ro : Ro} {oa : Ky → Nat} {aa : Nat → Nat} {sh : Sh} {ln : Nat → Nat} {j1 : Nat} {μ : Mm} {v2 : Int32} {res : Mm} (hwf : WfS sh) (hj1 : sh 2 j1 = 1) (hf : f_X4_sayNotice sh ln j1 μ v2 = some res) : Ct l D tc ro (faB oa aa sh) (feB tc oa aa sh ln) yX4_sayNotice cX4_sayNotice 4 none (rmq 2 44) [.ref (oa (3, 0)), .ref (oa (13, j1)), .int v2] μ none res := by
  refine Ct.of (by decide) (Nat.le_of_ble_eq_true rfl) (fun p e s m args below meth c A C hr hk hW ls hl => ?_)
  have hx := C.1.1
  have hb := C.1.2.1
  obtain ⟨Q, hQ⟩ : ∃ Q, Q = MQ below (Ctq D (faB oa aa sh) (feB tc oa aa sh ln) none res A) args s 0 0 A := ⟨_, rfl⟩
  rw [← hQ]
  have hl : lv_has ls 4 [(0, .ref (oa (3, 0))), (1, .ref (oa (13, j1))), (2, .int v2)] := hl
  unfold f_X4_sayNotice at hf
  refine lv_iconst (v := 0) hx hb dX4_sayNotice_0 (by decide) ?_
  refine lv_istore_n (lv' := [(3, .int (0 : Int32)), (0, .ref (oa (3, 0))), (1, .ref (oa (13, j1))), (2, .int v2)]) hx hb dX4_sayNotice_1 rfl hl (by decide) rfl (fun ls hl => ?_)
  have L2 : ∀ (μ : Mm) (v3 : Int32) (H : Heap) (locs : List Loc) (ls : Array Slot), Wh (fun z : Mm × Int32 => f_X4_sayNotice_L2 sh ln j1 v2 z.1 z.2) (μ, v3) = some res → Wd D (faB oa aa sh) (feB tc oa aa sh ln) A s.heap μ H locs → lv_has ls 4 [(0, .ref (oa (3, 0))), (1, .ref (oa (13, j1))), (2, .int v2), (3, .int v3)] → W p l e (rmq 2 44) s m args below meth c H locs 0 0 Q (F0 m 2 ls []) := by
    intro μ v3 H locs ls hf hW hl
    refine Wh_rule hf (fun z : Mm × Int32 => ∀ (H : Heap) (locs : List Loc) (ls : Array Slot), Wd D (faB oa aa sh) (feB tc oa aa sh ln) A s.heap z.1 H locs → lv_has ls 4 [(0, .ref (oa (3, 0))), (1, .ref (oa (13, j1))), (2, .int v2), (3, .int z.2)] → W p l e (rmq 2 44) s m args below meth c H locs 0 0 Q (F0 m 2 ls [])) (fun z o1 hf Kl1 Kr1 => ?_) _ _ _ hW hl
    obtain ⟨μ, v3⟩ := z
    intro H locs ls hW hl
    have hf : f_X4_sayNotice_L2 sh ln j1 v2 μ v3 = some o1 := hf
    unfold f_X4_sayNotice_L2 at hf
    have hW : Wd D (faB oa aa sh) (feB tc oa aa sh ln) A s.heap μ H locs := hW
    have hl : lv_has ls 4 [(0, .ref (oa (3, 0))), (1, .ref (oa (13, j1))), (2, .int v2), (3, .int v3)] := hl
    refine lv_iload_n hx hb dX4_sayNotice_2 rfl (lv_at hl 3 rfl) ?_
    refine lv_aload_n hx hb dX4_sayNotice_3 rfl (lv_at hl 1 rfl) ?_
    refine gf_X4_52 C hW hj1 dX4_sayNotice_4 ?_
    refine lv_icmp_ge (tgt := 30) hx hb dX4_sayNotice_7 (by decide) (fun c1 => ?_) (fun c1 => ?_)
    · have hf := (if_pos c1).symm.trans hf
      obtain ⟨x9002, hf, hx9002⟩ := map_of hf
      have e9002 := (Kr1 _ hx9002.symm).symm
      subst e9002
      obtain rfl := Option.some.inj hf
      rw [hQ]
      exact r_vret C hr hk hW rfl rfl dX4_sayNotice_30
    · have hf := (if_neg c1).symm.trans hf
      refine lv_aload_n hx hb dX4_sayNotice_10 rfl (lv_at hl 0 rfl) ?_
      refine gf_X4_28 C hW dX4_sayNotice_11 ?_
      refine lv_iload_n hx hb dX4_sayNotice_14 rfl (lv_at hl 3 rfl) ?_
      refine lv_aload_n hx hb dX4_sayNotice_15 rfl (lv_at hl 1 rfl) ?_
      refine lv_iload_n hx hb dX4_sayNotice_16 rfl (lv_at hl 3 rfl) ?_
      refine lv_iload_n hx hb dX4_sayNotice_17 rfl (lv_at hl 2 rfl) ?_
      obtain ⟨x18, h18, hf⟩ := bd_of hf
      refine r_callV (k := ((13, j1) : Ky)) C hW hl lk_X4_60 (c_X6_figure hwf hj1 h18) ⟨rfl, rfl⟩ ⟨Nat.le_of_ble_eq_true rfl, Nat.le_of_ble_eq_true rfl⟩ rfl (faB_13 hj1) rfl (As := [.int v3, .int v2]) (rest := [.int v3, .ref (oa (11, 4))]) rfl rfl (Nat.le_of_ble_eq_true rfl) dX4_sayNotice_18 ⟨Nat.zero_le _, Nat.zero_le _⟩ (fun H locs hW => ?_)
      show W p l e (rmq 2 44) s m args below meth c H locs 0 0 Q (F0 m 21 ls [.int x18, .int v3, .ref (oa (11, 4))])
      obtain ⟨x21, h21, hf⟩ := bd_of hf
      refine r_callV (k := ((11, 4) : Ky)) C hW hl lk_X4_110 (c_X1_put hwf rfl h21) ⟨rfl, rfl⟩ ⟨Nat.le_of_ble_eq_true rfl, Nat.le_of_ble_eq_true rfl⟩ rfl (faB_11 rfl) rfl (As := [.int v3, .int x18]) (rest := []) rfl rfl (Nat.le_of_ble_eq_true rfl) dX4_sayNotice_21 ⟨Nat.zero_le _, Nat.zero_le _⟩ (fun H locs hW => ?_)
      show W p l e (rmq 2 44) s m args below meth c H locs 0 0 Q (F0 m 24 ls [])
      refine lv_iinc (v := (v3 + (1 : Int32))) (lv' := [(3, .int (v3 + (1 : Int32))), (0, .ref (oa (3, 0))), (1, .ref (oa (13, j1))), (2, .int v2)]) hx hb dX4_sayNotice_24 hl (k := 3) rfl rfl (by decide) rfl (fun ls hl => ?_)
      refine lv_goto (tgt := 2) hx hb dX4_sayNotice_27 (by decide) ?_
      obtain rfl := Option.some.inj hf
      exact Kl1 _ rfl _ _ _ hW (lv_sub hl [1, 2, 3, 0] rfl)
  exact L2 μ (0 : Int32) _ _ _ hf hW (lv_sub hl [1, 2, 3, 0] rfl)
set_option maxHeartbeats 4000000 in
set_option maxRecDepth 100000 in
theorem c_X4_sayWhetherMany {l : Launch} {D : va_G} {tc : Nat → ClassId} {ro : Ro} {oa : Ky → Nat} {aa : Nat → Nat} {sh : Sh} {ln : Nat → Nat} {j1 : Nat} {μ : Mm} {v2 v3 v4 : Int32} {res : Mm} (hwf : WfS sh) (hj1 : sh 2 j1 = 1) (hf : f_X4_sayWhetherMany sh ln j1 μ v2 v3 v4 = some res) : Ct l D tc ro (faB oa aa sh) (feB tc oa aa sh ln) yX4_sayWhetherMany cX4_sayWhetherMany 7 none (rmq 3 68) [.ref (oa (3, 0)), .ref (oa (13, j1)), .int v2, .int v3, .int v4] μ none res := by
  refine Ct.of (by decide) (Nat.le_of_ble_eq_true rfl) (fun p e s m args below meth c A C hr hk hW ls hl => ?_)
  have hx := C.1.1
  have hb := C.1.2.1
  obtain ⟨Q, hQ⟩ : ∃ Q, Q = MQ below (Ctq D (faB oa aa sh) (feB tc oa aa sh ln) none res A) args s 0 0 A := ⟨_, rfl⟩
  rw [← hQ]
  have hl : lv_has ls 7 [(0, .ref (oa (3, 0))), (1, .ref (oa (13, j1))), (2, .int v2), (3, .int v3), (4, .int v4)] := hl
  unfold f_X4_sayWhetherMany at hf
  refine lv_iconst (v := 0) hx hb dX4_sayWhetherMany_0 (by decide) ?_
  refine lv_istore (lv' := [(5, .int (0 : Int32)), (0, .ref (oa (3, 0))), (1, .ref (oa (13, j1))), (2, .int v2), (3, .int v3), (4, .int v4)]) hx hb dX4_sayWhetherMany_1 hl (by decide) rfl (fun ls hl => ?_)
  have L3 : ∀ (μ : Mm) (v5 : Int32) (H : Heap) (locs : List Loc) (ls : Array Slot), Wh (fun z : Mm × Int32 => f_X4_sayWhetherMany_L3 sh ln j1 v2 v3 v4 z.1 z.2) (μ, v5) = some res → Wd D (faB oa aa sh) (feB tc oa aa sh ln) A s.heap μ H locs → lv_has ls 7 [(0, .ref (oa (3, 0))), (1, .ref (oa (13, j1))), (2, .int v2), (3, .int v3), (4, .int v4), (5, .int v5)] → W p l e (rmq 3 68) s m args below meth c H locs 0 0 Q (F0 m 3 ls []) := by
    intro μ v5 H locs ls hf hW hl
    refine Wh_rule hf (fun z : Mm × Int32 => ∀ (H : Heap) (locs : List Loc) (ls : Array Slot), Wd D (faB oa aa sh) (feB tc oa aa sh ln) A s.heap z.1 H locs → lv_has ls 7 [(0, .ref (oa (3, 0))), (1, .ref (oa (13, j1))), (2, .int v2), (3, .int v3), (4, .int v4), (5, .int z.2)] → W p l e (rmq 3 68) s m args below meth c H locs 0 0 Q (F0 m 3 ls [])) (fun z o1 hf Kl1 Kr1 => ?_) _ _ _ hW hl
    obtain ⟨μ, v5⟩ := z
    intro H locs ls hW hl
    have hf : f_X4_sayWhetherMany_L3 sh ln j1 v2 v3 v4 μ v5 = some o1 := hf
    unfold f_X4_sayWhetherMany_L3 at hf
    have hW : Wd D (faB oa aa sh) (feB tc oa aa sh ln) A s.heap μ H locs := hW
    have hl : lv_has ls 7 [(0, .ref (oa (3, 0))), (1, .ref (oa (13, j1))), (2, .int v2), (3, .int v3), (4, .int v4), (5, .int v5)] := hl
    refine lv_iload hx hb dX4_sayWhetherMany_3 (lv_at hl 5 rfl) ?_
    refine lv_aload_n hx hb dX4_sayWhetherMany_5 rfl (lv_at hl 1 rfl) ?_
    refine gf_X4_52 C hW hj1 dX4_sayWhetherMany_6 ?_
    refine lv_icmp_ge (tgt := 61) hx hb dX4_sayWhetherMany_9 (by decide) (fun c1 => ?_) (fun c1 => ?_)
    · have hf := (if_pos c1).symm.trans hf
      obtain ⟨x9002, hf, hx9002⟩ := map_of hf
      have e9002 := (Kr1 _ hx9002.symm).symm
      subst e9002
      obtain rfl := Option.some.inj hf
      rw [hQ]
      exact r_vret C hr hk hW rfl rfl dX4_sayWhetherMany_61
    · have hf := (if_neg c1).symm.trans hf
      refine lv_aload_n hx hb dX4_sayWhetherMany_12 rfl (lv_at hl 1 rfl) ?_
      refine lv_iload hx hb dX4_sayWhetherMany_13 (lv_at hl 5 rfl) ?_
      refine lv_iload_n hx hb dX4_sayWhetherMany_15 rfl (lv_at hl 3 rfl) ?_
      obtain ⟨x16, h16, hf⟩ := bd_of hf
      refine r_callV (k := ((13, j1) : Ky)) C hW hl lk_X4_117 (c_X6_many hwf hj1 h16) ⟨rfl, rfl⟩ ⟨Nat.le_of_ble_eq_true rfl, Nat.le_of_ble_eq_true rfl⟩ rfl (faB_13 hj1) rfl (As := [.int v5, .int v3]) (rest := []) rfl rfl (Nat.le_of_ble_eq_true rfl) dX4_sayWhetherMany_16 ⟨Nat.zero_le _, Nat.zero_le _⟩ (fun H locs hW => ?_)
      show W p l e (rmq 3 68) s m args below meth c H locs 0 0 Q (F0 m 19 ls [.int x16])
      refine lv_istore (lv' := [(6, .int x16), (0, .ref (oa (3, 0))), (1, .ref (oa (13, j1))), (2, .int v2), (3, .int v3), (4, .int v4), (5, .int v5)]) hx hb dX4_sayWhetherMany_19 hl (by decide) rfl (fun ls hl => ?_)
      refine lv_aload_n hx hb dX4_sayWhetherMany_21 rfl (lv_at hl 1 rfl) ?_
      refine gf_X4_28 C hW dX4_sayWhetherMany_22 ?_
      refine lv_iload hx hb dX4_sayWhetherMany_25 (lv_at hl 6 rfl) ?_
      refine lv_iload hx hb dX4_sayWhetherMany_27 (lv_at hl 5 rfl) ?_
      refine lv_if_eq (tgt := 41) hx hb dX4_sayWhetherMany_29 (by decide) (fun c3 => ?_) (fun c3 => ?_)
      · have hf := (if_pos c3).symm.trans hf
        refine lv_iload hx hb dX4_sayWhetherMany_41 (lv_at hl 0 rfl) ?_
        refine lv_iload_n hx hb dX4_sayWhetherMany_43 rfl (lv_at hl 3 rfl) ?_
        refine lv_icmp_gt (tgt := 51) hx hb dX4_sayWhetherMany_44 (by decide) (fun c4 => ?_) (fun c4 => ?_)
        · have hf := (if_pos c4).symm.trans hf
          refine lv_iconst (v := 0) hx hb dX4_sayWhetherMany_51 (by decide) ?_
          obtain ⟨x52, h52, hf⟩ := bd_of hf
          refine r_callV (k := ((11, 4) : Ky)) C hW hl lk_X4_110 (c_X1_put hwf rfl h52) ⟨rfl, rfl⟩ ⟨Nat.le_of_ble_eq_true rfl, Nat.le_of_ble_eq_true rfl⟩ rfl (faB_11 rfl) rfl (As := [.int v5, .int (0 : Int32)]) (rest := []) rfl rfl (Nat.le_of_ble_eq_true rfl) dX4_sayWhetherMany_52 ⟨Nat.zero_le _, Nat.zero_le _⟩ (fun H locs hW => ?_)
          show W p l e (rmq 3 68) s m args below meth c H locs 0 0 Q (F0 m 55 ls [])
          refine lv_iinc (v := (v5 + (1 : Int32))) (lv' := [(5, .int (v5 + (1 : Int32))), (6, .int x16), (0, .ref (oa (3, 0))), (1, .ref (oa (13, j1))), (2, .int v2), (3, .int v3), (4, .int v4)]) hx hb dX4_sayWhetherMany_55 hl (k := 6) rfl rfl (by decide) rfl (fun ls hl => ?_)
          refine lv_goto (tgt := 3) hx hb dX4_sayWhetherMany_58 (by decide) ?_
          obtain rfl := Option.some.inj hf
          exact Kl1 _ rfl _ _ _ hW (lv_sub hl [2, 3, 4, 5, 6, 0] rfl)
        · have hf := (if_neg c4).symm.trans hf
          refine lv_iconst (v := 1) hx hb dX4_sayWhetherMany_47 (by decide) ?_
          refine lv_goto (tgt := 52) hx hb dX4_sayWhetherMany_48 (by decide) ?_
          obtain ⟨x52, h52, hf⟩ := bd_of hf
          refine r_callV (k := ((11, 4) : Ky)) C hW hl lk_X4_110 (c_X1_put hwf rfl h52) ⟨rfl, rfl⟩ ⟨Nat.le_of_ble_eq_true rfl, Nat.le_of_ble_eq_true rfl⟩ rfl (faB_11 rfl) rfl (As := [.int v5, .int (1 : Int32)]) (rest := []) rfl rfl (Nat.le_of_ble_eq_true rfl) dX4_sayWhetherMany_52 ⟨Nat.zero_le _, Nat.zero_le _⟩ (fun H locs hW => ?_)
          show W p l e (rmq 3 68) s m args below meth c H locs 0 0 Q (F0 m 55 ls [])
          refine lv_iinc (v := (v5 + (1 : Int32))) (lv' := [(5, .int (v5 + (1 : Int32))), (6, .int x16), (0, .ref (oa (3, 0))), (1, .ref (oa (13, j1))), (2, .int v2), (3, .int v3), (4, .int v4)]) hx hb dX4_sayWhetherMany_55 hl (k := 6) rfl rfl (by decide) rfl (fun ls hl => ?_)
          refine lv_goto (tgt := 3) hx hb dX4_sayWhetherMany_58 (by decide) ?_
          obtain rfl := Option.some.inj hf
          exact Kl1 _ rfl _ _ _ hW (lv_sub hl [2, 3, 4, 5, 6, 0] rfl)
      · have hf := (if_neg c3).symm.trans hf
        refine lv_iload hx hb dX4_sayWhetherMany_32 (lv_at hl 0 rfl) ?_
        refine lv_iload_n hx hb dX4_sayWhetherMany_34 rfl (lv_at hl 3 rfl) ?_
        refine lv_icmp_lt (tgt := 51) hx hb dX4_sayWhetherMany_35 (by decide) (fun c5 => ?_) (fun c5 => ?_)
        · have hf := (if_pos c5).symm.trans hf
          refine lv_iconst (v := 0) hx hb dX4_sayWhetherMany_51 (by decide) ?_
          obtain ⟨x52, h52, hf⟩ := bd_of hf
          refine r_callV (k := ((11, 4) : Ky)) C hW hl lk_X4_110 (c_X1_put hwf rfl h52) ⟨rfl, rfl⟩ ⟨Nat.le_of_ble_eq_true rfl, Nat.le_of_ble_eq_true rfl⟩ rfl (faB_11 rfl) rfl (As := [.int v5, .int (0 : Int32)]) (rest := []) rfl rfl (Nat.le_of_ble_eq_true rfl) dX4_sayWhetherMany_52 ⟨Nat.zero_le _, Nat.zero_le _⟩ (fun H locs hW => ?_)
          show W p l e (rmq 3 68) s m args below meth c H locs 0 0 Q (F0 m 55 ls [])
          refine lv_iinc (v := (v5 + (1 : Int32))) (lv' := [(5, .int (v5 + (1 : Int32))), (6, .int x16), (0, .ref (oa (3, 0))), (1, .ref (oa (13, j1))), (2, .int v2), (3, .int v3), (4, .int v4)]) hx hb dX4_sayWhetherMany_55 hl (k := 6) rfl rfl (by decide) rfl (fun ls hl => ?_)
          refine lv_goto (tgt := 3) hx hb dX4_sayWhetherMany_58 (by decide) ?_
          obtain rfl := Option.some.inj hf
          exact Kl1 _ rfl _ _ _ hW (lv_sub hl [2, 3, 4, 5, 6, 0] rfl)
        · have hf := (if_neg c5).symm.trans hf
          refine lv_goto (tgt := 47) hx hb dX4_sayWhetherMany_38 (by decide) ?_
          refine lv_iconst (v := 1) hx hb dX4_sayWhetherMany_47 (by decide) ?_
          refine lv_goto (tgt := 52) hx hb dX4_sayWhetherMany_48 (by decide) ?_
          obtain ⟨x52, h52, hf⟩ := bd_of hf
          refine r_callV (k := ((11, 4) : Ky)) C hW hl lk_X4_110 (c_X1_put hwf rfl h52) ⟨rfl, rfl⟩ ⟨Nat.le_of_ble_eq_true rfl, Nat.le_of_ble_eq_true rfl⟩ rfl (faB_11 rfl) rfl (As := [.int v5, .int (1 : Int32)]) (rest := []) rfl rfl (Nat.le_of_ble_eq_true rfl) dX4_sayWhetherMany_52 ⟨Nat.zero_le _, Nat.zero_le _⟩ (fun H locs hW => ?_)
          show W p l e (rmq 3 68) s m args below meth c H locs 0 0 Q (F0 m 55 ls [])
          refine lv_iinc (v := (v5 + (1 : Int32))) (lv' := [(5, .int (v5 + (1 : Int32))), (6, .int x16), (0, .ref (oa (3, 0))), (1, .ref (oa (13, j1))), (2, .int v2), (3, .int v3), (4, .int v4)]) hx hb dX4_sayWhetherMany_55 hl (k := 6) rfl rfl (by decide) rfl (fun ls hl => ?_)
          refine lv_goto (tgt := 3) hx hb dX4_sayWhetherMany_58 (by decide) ?_
          obtain rfl := Option.some.inj hf
          exact Kl1 _ rfl _ _ _ hW (lv_sub hl [2, 3, 4, 5, 6, 0] rfl)
  exact L3 μ (0 : Int32) _ _ _ hf hW (lv_sub hl [1, 2, 3, 4, 5, 0] rfl)
set_option maxHeartbeats 4000000 in
set_option maxRecDepth 100000 in
theorem c_X4_sayWhetherAlike {l : Launch} {D : va_G} {tc : Nat → ClassId} {ro : Ro} {oa : Ky → Nat} {aa : Nat → Nat} {sh : Sh} {ln : Nat → Nat} {j1 : Nat} {μ : Mm} {v2 v3 v4 : Int32} {res : Mm} (hwf : WfS sh) (hj1 : sh 2 j1 = 1) (hf : f_X4_sayWhetherAlike sh ln j1 μ v2 v3 v4 = some res) : Ct l D tc ro (faB oa aa sh) (feB tc oa aa sh ln) yX4_sayWhetherAlike cX4_sayWhetherAlike 6 none (rmq 2 44) [.ref (oa (3, 0)), .ref (oa (13, j1)), .int v2, .int v3, .int v4] μ none res := by
  refine Ct.of (by decide) (Nat.le_of_ble_eq_true rfl) (fun p e s m args below meth c A C hr hk hW ls hl => ?_)
  have hx := C.1.1
  have hb := C.1.2.1
  obtain ⟨Q, hQ⟩ : ∃ Q, Q = MQ below (Ctq D (faB oa aa sh) (feB tc oa aa sh ln) none res A) args s 0 0 A := ⟨_, rfl⟩
  rw [← hQ]
  have hl : lv_has ls 6 [(0, .ref (oa (3, 0))), (1, .ref (oa (13, j1))), (2, .int v2), (3, .int v3), (4, .int v4)] := hl
  unfold f_X4_sayWhetherAlike at hf
  refine lv_iconst (v := 0) hx hb dX4_sayWhetherAlike_0 (by decide) ?_
  refine lv_istore (lv' := [(5, .int (0 : Int32)), (0, .ref (oa (3, 0))), (1, .ref (oa (13, j1))), (2, .int v2), (3, .int v3), (4, .int v4)]) hx hb dX4_sayWhetherAlike_1 hl (by decide) rfl (fun ls hl => ?_)
  have L3 : ∀ (μ : Mm) (v5 : Int32) (H : Heap) (locs : List Loc) (ls : Array Slot), Wh (fun z : Mm × Int32 => f_X4_sayWhetherAlike_L3 sh ln j1 v2 v3 v4 z.1 z.2) (μ, v5) = some res → Wd D (faB oa aa sh) (feB tc oa aa sh ln) A s.heap μ H locs → lv_has ls 6 [(0, .ref (oa (3, 0))), (1, .ref (oa (13, j1))), (2, .int v2), (3, .int v3), (4, .int v4), (5, .int v5)] → W p l e (rmq 2 44) s m args below meth c H locs 0 0 Q (F0 m 3 ls []) := by
    intro μ v5 H locs ls hf hW hl
    refine Wh_rule hf (fun z : Mm × Int32 => ∀ (H : Heap) (locs : List Loc) (ls : Array Slot), Wd D (faB oa aa sh) (feB tc oa aa sh ln) A s.heap z.1 H locs → lv_has ls 6 [(0, .ref (oa (3, 0))), (1, .ref (oa (13, j1))), (2, .int v2), (3, .int v3), (4, .int v4), (5, .int z.2)] → W p l e (rmq 2 44) s m args below meth c H locs 0 0 Q (F0 m 3 ls [])) (fun z o1 hf Kl1 Kr1 => ?_) _ _ _ hW hl
    obtain ⟨μ, v5⟩ := z
    intro H locs ls hW hl
    have hf : f_X4_sayWhetherAlike_L3 sh ln j1 v2 v3 v4 μ v5 = some o1 := hf
    unfold f_X4_sayWhetherAlike_L3 at hf
    have hW : Wd D (faB oa aa sh) (feB tc oa aa sh ln) A s.heap μ H locs := hW
    have hl : lv_has ls 6 [(0, .ref (oa (3, 0))), (1, .ref (oa (13, j1))), (2, .int v2), (3, .int v3), (4, .int v4), (5, .int v5)] := hl
    refine lv_iload hx hb dX4_sayWhetherAlike_3 (lv_at hl 5 rfl) ?_
    refine lv_aload_n hx hb dX4_sayWhetherAlike_5 rfl (lv_at hl 1 rfl) ?_
    refine gf_X4_52 C hW hj1 dX4_sayWhetherAlike_6 ?_
    refine lv_icmp_ge (tgt := 59) hx hb dX4_sayWhetherAlike_9 (by decide) (fun c1 => ?_) (fun c1 => ?_)
    · have hf := (if_pos c1).symm.trans hf
      obtain ⟨x9002, hf, hx9002⟩ := map_of hf
      have e9002 := (Kr1 _ hx9002.symm).symm
      subst e9002
      obtain rfl := Option.some.inj hf
      rw [hQ]
      exact r_vret C hr hk hW rfl rfl dX4_sayWhetherAlike_59
    · have hf := (if_neg c1).symm.trans hf
      refine lv_aload_n hx hb dX4_sayWhetherAlike_12 rfl (lv_at hl 0 rfl) ?_
      refine gf_X4_28 C hW dX4_sayWhetherAlike_13 ?_
      refine lv_iload hx hb dX4_sayWhetherAlike_16 (lv_at hl 5 rfl) ?_
      refine lv_aload_n hx hb dX4_sayWhetherAlike_18 rfl (lv_at hl 1 rfl) ?_
      refine lv_iload hx hb dX4_sayWhetherAlike_19 (lv_at hl 5 rfl) ?_
      refine lv_iload_n hx hb dX4_sayWhetherAlike_21 rfl (lv_at hl 2 rfl) ?_
      obtain ⟨x22, h22, hf⟩ := bd_of hf
      refine r_callV (k := ((13, j1) : Ky)) C hW hl lk_X4_60 (c_X6_figure hwf hj1 h22) ⟨rfl, rfl⟩ ⟨Nat.le_of_ble_eq_true rfl, Nat.le_of_ble_eq_true rfl⟩ rfl (faB_13 hj1) rfl (As := [.int v5, .int v2]) (rest := [.int v5, .ref (oa (11, 4))]) rfl rfl (Nat.le_of_ble_eq_true rfl) dX4_sayWhetherAlike_22 ⟨Nat.zero_le _, Nat.zero_le _⟩ (fun H locs hW => ?_)
      show W p l e (rmq 2 44) s m args below meth c H locs 0 0 Q (F0 m 25 ls [.int x22, .int v5, .ref (oa (11, 4))])
      refine lv_aload_n hx hb dX4_sayWhetherAlike_25 rfl (lv_at hl 1 rfl) ?_
      refine lv_iload hx hb dX4_sayWhetherAlike_26 (lv_at hl 5 rfl) ?_
      refine lv_iload_n hx hb dX4_sayWhetherAlike_28 rfl (lv_at hl 3 rfl) ?_
      obtain ⟨x29, h29, hf⟩ := bd_of hf
      refine r_callV (k := ((13, j1) : Ky)) C hW hl lk_X4_60 (c_X6_figure hwf hj1 h29) ⟨rfl, rfl⟩ ⟨Nat.le_of_ble_eq_true rfl, Nat.le_of_ble_eq_true rfl⟩ rfl (faB_13 hj1) rfl (As := [.int v5, .int v3]) (rest := [.int x22, .int v5, .ref (oa (11, 4))]) rfl rfl (Nat.le_of_ble_eq_true rfl) dX4_sayWhetherAlike_29 ⟨Nat.zero_le _, Nat.zero_le _⟩ (fun H locs hW => ?_)
      show W p l e (rmq 2 44) s m args below meth c H locs 0 0 Q (F0 m 32 ls [.int x29, .int x22, .int v5, .ref (oa (11, 4))])
      refine lv_icmp_ne (tgt := 39) hx hb dX4_sayWhetherAlike_32 (by decide) (fun c3 => ?_) (fun c3 => ?_)
      · have hf := (if_neg c3).symm.trans hf
        refine lv_iconst (v := 0) hx hb dX4_sayWhetherAlike_39 (by decide) ?_
        refine lv_iload hx hb dX4_sayWhetherAlike_40 (lv_at hl 4 rfl) ?_
        refine lv_icmp_ne (tgt := 49) hx hb dX4_sayWhetherAlike_42 (by decide) (fun c4 => ?_) (fun c4 => ?_)
        · have hf := (if_neg c4).symm.trans hf
          refine lv_iconst (v := 0) hx hb dX4_sayWhetherAlike_49 (by decide) ?_
          obtain ⟨x50, h50, hf⟩ := bd_of hf
          refine r_callV (k := ((11, 4) : Ky)) C hW hl lk_X4_110 (c_X1_put hwf rfl h50) ⟨rfl, rfl⟩ ⟨Nat.le_of_ble_eq_true rfl, Nat.le_of_ble_eq_true rfl⟩ rfl (faB_11 rfl) rfl (As := [.int v5, .int (0 : Int32)]) (rest := []) rfl rfl (Nat.le_of_ble_eq_true rfl) dX4_sayWhetherAlike_50 ⟨Nat.zero_le _, Nat.zero_le _⟩ (fun H locs hW => ?_)
          show W p l e (rmq 2 44) s m args below meth c H locs 0 0 Q (F0 m 53 ls [])
          refine lv_iinc (v := (v5 + (1 : Int32))) (lv' := [(5, .int (v5 + (1 : Int32))), (0, .ref (oa (3, 0))), (1, .ref (oa (13, j1))), (2, .int v2), (3, .int v3), (4, .int v4)]) hx hb dX4_sayWhetherAlike_53 hl (k := 5) rfl rfl (by decide) rfl (fun ls hl => ?_)
          refine lv_goto (tgt := 3) hx hb dX4_sayWhetherAlike_56 (by decide) ?_
          obtain rfl := Option.some.inj hf
          exact Kl1 _ rfl _ _ _ hW (lv_sub hl [1, 2, 3, 4, 5, 0] rfl)
        · have hf := (if_pos c4).symm.trans hf
          refine lv_iconst (v := 1) hx hb dX4_sayWhetherAlike_45 (by decide) ?_
          refine lv_goto (tgt := 50) hx hb dX4_sayWhetherAlike_46 (by decide) ?_
          obtain ⟨x50, h50, hf⟩ := bd_of hf
          refine r_callV (k := ((11, 4) : Ky)) C hW hl lk_X4_110 (c_X1_put hwf rfl h50) ⟨rfl, rfl⟩ ⟨Nat.le_of_ble_eq_true rfl, Nat.le_of_ble_eq_true rfl⟩ rfl (faB_11 rfl) rfl (As := [.int v5, .int (1 : Int32)]) (rest := []) rfl rfl (Nat.le_of_ble_eq_true rfl) dX4_sayWhetherAlike_50 ⟨Nat.zero_le _, Nat.zero_le _⟩ (fun H locs hW => ?_)
          show W p l e (rmq 2 44) s m args below meth c H locs 0 0 Q (F0 m 53 ls [])
          refine lv_iinc (v := (v5 + (1 : Int32))) (lv' := [(5, .int (v5 + (1 : Int32))), (0, .ref (oa (3, 0))), (1, .ref (oa (13, j1))), (2, .int v2), (3, .int v3), (4, .int v4)]) hx hb dX4_sayWhetherAlike_53 hl (k := 5) rfl rfl (by decide) rfl (fun ls hl => ?_)
          refine lv_goto (tgt := 3) hx hb dX4_sayWhetherAlike_56 (by decide) ?_
          obtain rfl := Option.some.inj hf
          exact Kl1 _ rfl _ _ _ hW (lv_sub hl [1, 2, 3, 4, 5, 0] rfl)
      · have hf := (if_pos c3).symm.trans hf
        refine lv_iconst (v := 1) hx hb dX4_sayWhetherAlike_35 (by decide) ?_
        refine lv_goto (tgt := 40) hx hb dX4_sayWhetherAlike_36 (by decide) ?_
        refine lv_iload hx hb dX4_sayWhetherAlike_40 (lv_at hl 4 rfl) ?_
        refine lv_icmp_ne (tgt := 49) hx hb dX4_sayWhetherAlike_42 (by decide) (fun c5 => ?_) (fun c5 => ?_)
        · have hf := (if_neg c5).symm.trans hf
          refine lv_iconst (v := 0) hx hb dX4_sayWhetherAlike_49 (by decide) ?_
          obtain ⟨x50, h50, hf⟩ := bd_of hf
          refine r_callV (k := ((11, 4) : Ky)) C hW hl lk_X4_110 (c_X1_put hwf rfl h50) ⟨rfl, rfl⟩ ⟨Nat.le_of_ble_eq_true rfl, Nat.le_of_ble_eq_true rfl⟩ rfl (faB_11 rfl) rfl (As := [.int v5, .int (0 : Int32)]) (rest := []) rfl rfl (Nat.le_of_ble_eq_true rfl) dX4_sayWhetherAlike_50 ⟨Nat.zero_le _, Nat.zero_le _⟩ (fun H locs hW => ?_)
          show W p l e (rmq 2 44) s m args below meth c H locs 0 0 Q (F0 m 53 ls [])
          refine lv_iinc (v := (v5 + (1 : Int32))) (lv' := [(5, .int (v5 + (1 : Int32))), (0, .ref (oa (3, 0))), (1, .ref (oa (13, j1))), (2, .int v2), (3, .int v3), (4, .int v4)]) hx hb dX4_sayWhetherAlike_53 hl (k := 5) rfl rfl (by decide) rfl (fun ls hl => ?_)
          refine lv_goto (tgt := 3) hx hb dX4_sayWhetherAlike_56 (by decide) ?_
          obtain rfl := Option.some.inj hf
          exact Kl1 _ rfl _ _ _ hW (lv_sub hl [1, 2, 3, 4, 5, 0] rfl)
        · have hf := (if_pos c5).symm.trans hf
          refine lv_iconst (v := 1) hx hb dX4_sayWhetherAlike_45 (by decide) ?_
          refine lv_goto (tgt := 50) hx hb dX4_sayWhetherAlike_46 (by decide) ?_
          obtain ⟨x50, h50, hf⟩ := bd_of hf
          refine r_callV (k := ((11, 4) : Ky)) C hW hl lk_X4_110 (c_X1_put hwf rfl h50) ⟨rfl, rfl⟩ ⟨Nat.le_of_ble_eq_true rfl, Nat.le_of_ble_eq_true rfl⟩ rfl (faB_11 rfl) rfl (As := [.int v5, .int (1 : Int32)]) (rest := []) rfl rfl (Nat.le_of_ble_eq_true rfl) dX4_sayWhetherAlike_50 ⟨Nat.zero_le _, Nat.zero_le _⟩ (fun H locs hW => ?_)
          show W p l e (rmq 2 44) s m args below meth c H locs 0 0 Q (F0 m 53 ls [])
          refine lv_iinc (v := (v5 + (1 : Int32))) (lv' := [(5, .int (v5 + (1 : Int32))), (0, .ref (oa (3, 0))), (1, .ref (oa (13, j1))), (2, .int v2), (3, .int v3), (4, .int v4)]) hx hb dX4_sayWhetherAlike_53 hl (k := 5) rfl rfl (by decide) rfl (fun ls hl => ?_)
          refine lv_goto (tgt := 3) hx hb dX4_sayWhetherAlike_56 (by decide) ?_
          obtain rfl := Option.some.inj hf
          exact Kl1 _ rfl _ _ _ hW (lv_sub hl [1, 2, 3, 4, 5, 0] rfl)
  exact L3 μ (0 : Int32) _ _ _ hf hW (lv_sub hl [1, 2, 3, 4, 5, 0] rfl)
set_option maxHeartbeats 4000000 in
set_option maxRecDepth 100000 in
theorem c_X4_sayWhetherSure {l : Launch} {D : va_G} {tc : Nat → ClassId} {ro : Ro} {oa : Ky → Nat} {aa : Nat → Nat} {sh : Sh} {ln : Nat → Nat} {j1 : Nat} {μ : Mm} {v2 : Int32} {res : Mm} (hwf : WfS sh) (hj1 : sh 2 j1 = 1) (hf : f_X4_sayWhetherSure sh ln j1 μ v2 = some res) : Ct l D tc ro (faB oa aa sh) (feB tc oa aa sh ln) yX4_sayWhetherSure cX4_sayWhetherSure 4 none (rmq 4 93) [.ref (oa (3, 0)), .ref (oa (13, j1)), .int v2] μ none res := by
  refine Ct.of (by decide) (Nat.le_of_ble_eq_true rfl) (fun p e s m args below meth c A C hr hk hW ls hl => ?_)
  have hx := C.1.1
  have hb := C.1.2.1
  obtain ⟨Q, hQ⟩ : ∃ Q, Q = MQ below (Ctq D (faB oa aa sh) (feB tc oa aa sh ln) none res A) args s 0 0 A := ⟨_, rfl⟩
  rw [← hQ]
  have hl : lv_has ls 4 [(0, .ref (oa (3, 0))), (1, .ref (oa (13, j1))), (2, .int v2)] := hl
  unfold f_X4_sayWhetherSure at hf
  refine lv_aload_n hx hb dX4_sayWhetherSure_0 rfl (lv_at hl 0 rfl) ?_
  refine lv_aload_n hx hb dX4_sayWhetherSure_1 rfl (lv_at hl 1 rfl) ?_
  refine lv_aload_n hx hb dX4_sayWhetherSure_2 rfl (lv_at hl 1 rfl) ?_
  refine gf_X4_84 C hW hj1 dX4_sayWhetherSure_3 ?_
  refine lv_iload_n hx hb dX4_sayWhetherSure_6 rfl (lv_at hl 2 rfl) ?_
  refine lv_iload_n hx hb dX4_sayWhetherSure_7 rfl (lv_at hl 2 rfl) ?_
  obtain ⟨x8, h8, hf⟩ := bd_of hf
  refine r_callV (k := ((3, 0) : Ky)) C hW hl lk_X4_95 (c_X4_spot hwf hj1 (cex_st hj1 (by decide)) h8) ⟨rfl, rfl⟩ ⟨Nat.le_of_ble_eq_true rfl, Nat.le_of_ble_eq_true rfl⟩ rfl rfl rfl (As := [.ref (oa (13, j1)), .ref (oa (11, 15 + 5 * j1 + 2)), .int v2, .int v2]) (rest := []) rfl rfl (Nat.le_of_ble_eq_true rfl) dX4_sayWhetherSure_8 ⟨Nat.zero_le _, Nat.zero_le _⟩ (fun H locs hW => ?_)
  show W p l e (rmq 4 93) s m args below meth c H locs 0 0 Q (F0 m 11 ls [])
  refine lv_iconst (v := 0) hx hb dX4_sayWhetherSure_11 (by decide) ?_
  refine lv_istore_n (lv' := [(3, .int (0 : Int32)), (0, .ref (oa (3, 0))), (1, .ref (oa (13, j1))), (2, .int v2)]) hx hb dX4_sayWhetherSure_12 rfl hl (by decide) rfl (fun ls hl => ?_)
  have L13 : ∀ (μ : Mm) (v3 : Int32) (H : Heap) (locs : List Loc) (ls : Array Slot), Wh (fun z : Mm × Int32 => f_X4_sayWhetherSure_L13 sh ln j1 v2 z.1 z.2) (μ, v3) = some res → Wd D (faB oa aa sh) (feB tc oa aa sh ln) A s.heap μ H locs → lv_has ls 4 [(0, .ref (oa (3, 0))), (1, .ref (oa (13, j1))), (2, .int v2), (3, .int v3)] → W p l e (rmq 4 93) s m args below meth c H locs 0 0 Q (F0 m 13 ls []) := by
    intro μ v3 H locs ls hf hW hl
    refine Wh_rule hf (fun z : Mm × Int32 => ∀ (H : Heap) (locs : List Loc) (ls : Array Slot), Wd D (faB oa aa sh) (feB tc oa aa sh ln) A s.heap z.1 H locs → lv_has ls 4 [(0, .ref (oa (3, 0))), (1, .ref (oa (13, j1))), (2, .int v2), (3, .int z.2)] → W p l e (rmq 4 93) s m args below meth c H locs 0 0 Q (F0 m 13 ls [])) (fun z o1 hf Kl1 Kr1 => ?_) _ _ _ hW hl
    obtain ⟨μ, v3⟩ := z
    intro H locs ls hW hl
    have hf : f_X4_sayWhetherSure_L13 sh ln j1 v2 μ v3 = some o1 := hf
    unfold f_X4_sayWhetherSure_L13 at hf
    have hW : Wd D (faB oa aa sh) (feB tc oa aa sh ln) A s.heap μ H locs := hW
    have hl : lv_has ls 4 [(0, .ref (oa (3, 0))), (1, .ref (oa (13, j1))), (2, .int v2), (3, .int v3)] := hl
    refine lv_iload_n hx hb dX4_sayWhetherSure_13 rfl (lv_at hl 3 rfl) ?_
    refine lv_aload_n hx hb dX4_sayWhetherSure_14 rfl (lv_at hl 1 rfl) ?_
    refine gf_X4_52 C hW hj1 dX4_sayWhetherSure_15 ?_
    refine lv_icmp_ge (tgt := 55) hx hb dX4_sayWhetherSure_18 (by decide) (fun c1 => ?_) (fun c1 => ?_)
    · have hf := (if_pos c1).symm.trans hf
      obtain ⟨x9002, hf, hx9002⟩ := map_of hf
      have e9002 := (Kr1 _ hx9002.symm).symm
      subst e9002
      obtain rfl := Option.some.inj hf
      rw [hQ]
      exact r_vret C hr hk hW rfl rfl dX4_sayWhetherSure_55
    · have hf := (if_neg c1).symm.trans hf
      refine lv_aload_n hx hb dX4_sayWhetherSure_21 rfl (lv_at hl 0 rfl) ?_
      refine gf_X4_28 C hW dX4_sayWhetherSure_22 ?_
      refine lv_iload_n hx hb dX4_sayWhetherSure_25 rfl (lv_at hl 3 rfl) ?_
      refine lv_aload_n hx hb dX4_sayWhetherSure_26 rfl (lv_at hl 0 rfl) ?_
      refine lv_aload_n hx hb dX4_sayWhetherSure_27 rfl (lv_at hl 0 rfl) ?_
      refine lv_aload_n hx hb dX4_sayWhetherSure_28 rfl (lv_at hl 1 rfl) ?_
      refine lv_iload_n hx hb dX4_sayWhetherSure_29 rfl (lv_at hl 2 rfl) ?_
      refine lv_iload_n hx hb dX4_sayWhetherSure_30 rfl (lv_at hl 3 rfl) ?_
      obtain ⟨x31, h31, hf⟩ := bd_of hf
      refine r_callV (k := ((3, 0) : Ky)) C hW hl lk_X4_99 (c_X4_spotted hwf hj1 h31) ⟨rfl, rfl⟩ ⟨Nat.le_of_ble_eq_true rfl, Nat.le_of_ble_eq_true rfl⟩ rfl rfl rfl (As := [.ref (oa (13, j1)), .int v2, .int v3]) (rest := [.ref (oa (3, 0)), .int v3, .ref (oa (11, 4))]) rfl rfl (Nat.le_of_ble_eq_true rfl) dX4_sayWhetherSure_31 ⟨Nat.zero_le _, Nat.zero_le _⟩ (fun H locs hW => ?_)
      show W p l e (rmq 4 93) s m args below meth c H locs 0 0 Q (F0 m 34 ls [.int x31, .ref (oa (3, 0)), .int v3, .ref (oa (11, 4))])
      obtain ⟨x34, h34, hf⟩ := bd_of hf
      refine r_callV (k := ((3, 0) : Ky)) C hW hl lk_X4_75 (c_X4_onlyOne h34) ⟨rfl, rfl⟩ ⟨Nat.le_of_ble_eq_true rfl, Nat.le_of_ble_eq_true rfl⟩ rfl rfl rfl (As := [.int x31]) (rest := [.int v3, .ref (oa (11, 4))]) rfl rfl (Nat.le_of_ble_eq_true rfl) dX4_sayWhetherSure_34 ⟨Nat.zero_le _, Nat.zero_le _⟩ (fun H locs hW => ?_)
      show W p l e (rmq 4 93) s m args below meth c H locs 0 0 Q (F0 m 37 ls [.int x34, .int v3, .ref (oa (11, 4))])
      refine lv_iconst (v := -1) hx hb dX4_sayWhetherSure_37 (by decide) ?_
      refine lv_icmp_ne (tgt := 45) hx hb dX4_sayWhetherSure_38 (by decide) (fun c3 => ?_) (fun c3 => ?_)
      · have hf := (if_neg c3).symm.trans hf
        refine lv_iconst (v := 1) hx hb dX4_sayWhetherSure_45 (by decide) ?_
        obtain ⟨x46, h46, hf⟩ := bd_of hf
        refine r_callV (k := ((11, 4) : Ky)) C hW hl lk_X4_110 (c_X1_put hwf rfl h46) ⟨rfl, rfl⟩ ⟨Nat.le_of_ble_eq_true rfl, Nat.le_of_ble_eq_true rfl⟩ rfl (faB_11 rfl) rfl (As := [.int v3, .int (1 : Int32)]) (rest := []) rfl rfl (Nat.le_of_ble_eq_true rfl) dX4_sayWhetherSure_46 ⟨Nat.zero_le _, Nat.zero_le _⟩ (fun H locs hW => ?_)
        show W p l e (rmq 4 93) s m args below meth c H locs 0 0 Q (F0 m 49 ls [])
        refine lv_iinc (v := (v3 + (1 : Int32))) (lv' := [(3, .int (v3 + (1 : Int32))), (0, .ref (oa (3, 0))), (1, .ref (oa (13, j1))), (2, .int v2)]) hx hb dX4_sayWhetherSure_49 hl (k := 3) rfl rfl (by decide) rfl (fun ls hl => ?_)
        refine lv_goto (tgt := 13) hx hb dX4_sayWhetherSure_52 (by decide) ?_
        obtain rfl := Option.some.inj hf
        exact Kl1 _ rfl _ _ _ hW (lv_sub hl [1, 2, 3, 0] rfl)
      · have hf := (if_pos c3).symm.trans hf
        refine lv_iconst (v := 0) hx hb dX4_sayWhetherSure_41 (by decide) ?_
        refine lv_goto (tgt := 46) hx hb dX4_sayWhetherSure_42 (by decide) ?_
        obtain ⟨x46, h46, hf⟩ := bd_of hf
        refine r_callV (k := ((11, 4) : Ky)) C hW hl lk_X4_110 (c_X1_put hwf rfl h46) ⟨rfl, rfl⟩ ⟨Nat.le_of_ble_eq_true rfl, Nat.le_of_ble_eq_true rfl⟩ rfl (faB_11 rfl) rfl (As := [.int v3, .int (0 : Int32)]) (rest := []) rfl rfl (Nat.le_of_ble_eq_true rfl) dX4_sayWhetherSure_46 ⟨Nat.zero_le _, Nat.zero_le _⟩ (fun H locs hW => ?_)
        show W p l e (rmq 4 93) s m args below meth c H locs 0 0 Q (F0 m 49 ls [])
        refine lv_iinc (v := (v3 + (1 : Int32))) (lv' := [(3, .int (v3 + (1 : Int32))), (0, .ref (oa (3, 0))), (1, .ref (oa (13, j1))), (2, .int v2)]) hx hb dX4_sayWhetherSure_49 hl (k := 3) rfl rfl (by decide) rfl (fun ls hl => ?_)
        refine lv_goto (tgt := 13) hx hb dX4_sayWhetherSure_52 (by decide) ?_
        obtain rfl := Option.some.inj hf
        exact Kl1 _ rfl _ _ _ hW (lv_sub hl [1, 2, 3, 0] rfl)
  exact L13 x8 (0 : Int32) _ _ _ hf hW (lv_sub hl [1, 2, 3, 0] rfl)
set_option maxHeartbeats 4000000 in
set_option maxRecDepth 100000 in
theorem c_X4_sayWhoIsSure {l : Launch} {D : va_G} {tc : Nat → ClassId} {ro : Ro} {oa : Ky → Nat} {aa : Nat → Nat} {sh : Sh} {ln : Nat → Nat} {j1 cl2 : Nat} {μ : Mm} {res : Mm} (hwf : WfS sh) (hj1 : sh 2 j1 = 1) (hc2 : cex sh cl2 = true) (hf : f_X4_sayWhoIsSure sh ln j1 cl2 μ = some res) : Ct l D tc ro (faB oa aa sh) (feB tc oa aa sh ln) yX4_sayWhoIsSure cX4_sayWhoIsSure 5 none (rmq 4 93) [.ref (oa (3, 0)), .ref (oa (13, j1)), .ref (oa (11, cl2))] μ none res := by
  refine Ct.of (by decide) (Nat.le_of_ble_eq_true rfl) (fun p e s m args below meth c A C hr hk hW ls hl => ?_)
  have hx := C.1.1
  have hb := C.1.2.1
  obtain ⟨Q, hQ⟩ : ∃ Q, Q = MQ below (Ctq D (faB oa aa sh) (feB tc oa aa sh ln) none res A) args s 0 0 A := ⟨_, rfl⟩
  rw [← hQ]
  have hl : lv_has ls 5 [(0, .ref (oa (3, 0))), (1, .ref (oa (13, j1))), (2, .ref (oa (11, cl2)))] := hl
  unfold f_X4_sayWhoIsSure at hf
  refine lv_aload_n hx hb dX4_sayWhoIsSure_0 rfl (lv_at hl 0 rfl) ?_
  refine gf_X4_28 C hW dX4_sayWhoIsSure_1 ?_
  refine lv_iconst (v := 0) hx hb dX4_sayWhoIsSure_4 (by decide) ?_
  refine lv_aload_n hx hb dX4_sayWhoIsSure_5 rfl (lv_at hl 1 rfl) ?_
  refine gf_X4_52 C hW hj1 dX4_sayWhoIsSure_6 ?_
  obtain ⟨x9, h9, hf⟩ := bd_of hf
  refine r_callV (k := ((11, 4) : Ky)) C hW hl lk_X4_103 (c_X1_fill hwf rfl h9) ⟨rfl, rfl⟩ ⟨Nat.le_of_ble_eq_true rfl, Nat.le_of_ble_eq_true rfl⟩ rfl (faB_11 rfl) rfl (As := [.int (0 : Int32), .int (μ (13, j1) 2)]) (rest := []) rfl rfl (Nat.le_of_ble_eq_true rfl) dX4_sayWhoIsSure_9 ⟨Nat.zero_le _, Nat.zero_le _⟩ (fun H locs hW => ?_)
  show W p l e (rmq 4 93) s m args below meth c H locs 0 0 Q (F0 m 12 ls [])
  refine lv_iconst (v := 0) hx hb dX4_sayWhoIsSure_12 (by decide) ?_
  refine lv_istore_n (lv' := [(3, .int (0 : Int32)), (0, .ref (oa (3, 0))), (1, .ref (oa (13, j1))), (2, .ref (oa (11, cl2)))]) hx hb dX4_sayWhoIsSure_13 rfl hl (by decide) rfl (fun ls hl => ?_)
  have L14 : ∀ (μ : Mm) (v3 : Int32) (H : Heap) (locs : List Loc) (ls : Array Slot), Wh (fun z : Mm × Int32 => f_X4_sayWhoIsSure_L14 sh ln j1 cl2 z.1 z.2) (μ, v3) = some res → Wd D (faB oa aa sh) (feB tc oa aa sh ln) A s.heap μ H locs → lv_has ls 5 [(0, .ref (oa (3, 0))), (1, .ref (oa (13, j1))), (2, .ref (oa (11, cl2))), (3, .int v3)] → W p l e (rmq 4 93) s m args below meth c H locs 0 0 Q (F0 m 14 ls []) := by
    intro μ v3 H locs ls hf hW hl
    refine Wh_rule hf (fun z : Mm × Int32 => ∀ (H : Heap) (locs : List Loc) (ls : Array Slot), Wd D (faB oa aa sh) (feB tc oa aa sh ln) A s.heap z.1 H locs → lv_has ls 5 [(0, .ref (oa (3, 0))), (1, .ref (oa (13, j1))), (2, .ref (oa (11, cl2))), (3, .int z.2)] → W p l e (rmq 4 93) s m args below meth c H locs 0 0 Q (F0 m 14 ls [])) (fun z o1 hf Kl1 Kr1 => ?_) _ _ _ hW hl
    obtain ⟨μ, v3⟩ := z
    intro H locs ls hW hl
    have hf : f_X4_sayWhoIsSure_L14 sh ln j1 cl2 μ v3 = some o1 := hf
    unfold f_X4_sayWhoIsSure_L14 at hf
    have hW : Wd D (faB oa aa sh) (feB tc oa aa sh ln) A s.heap μ H locs := hW
    have hl : lv_has ls 5 [(0, .ref (oa (3, 0))), (1, .ref (oa (13, j1))), (2, .ref (oa (11, cl2))), (3, .int v3)] := hl
    refine lv_iload_n hx hb dX4_sayWhoIsSure_14 rfl (lv_at hl 3 rfl) ?_
    refine lv_aload_n hx hb dX4_sayWhoIsSure_15 rfl (lv_at hl 1 rfl) ?_
    refine gf_X4_78 C hW hj1 dX4_sayWhoIsSure_16 ?_
    refine lv_icmp_ge (tgt := 82) hx hb dX4_sayWhoIsSure_19 (by decide) (fun c1 => ?_) (fun c1 => ?_)
    · have hf := (if_pos c1).symm.trans hf
      obtain ⟨x9002, hf, hx9002⟩ := map_of hf
      have e9002 := (Kr1 _ hx9002.symm).symm
      subst e9002
      obtain rfl := Option.some.inj hf
      rw [hQ]
      exact r_vret C hr hk hW rfl rfl dX4_sayWhoIsSure_82
    · have hf := (if_neg c1).symm.trans hf
      refine lv_aload_n hx hb dX4_sayWhoIsSure_22 rfl (lv_at hl 0 rfl) ?_
      refine lv_aload_n hx hb dX4_sayWhoIsSure_23 rfl (lv_at hl 1 rfl) ?_
      refine lv_aload_n hx hb dX4_sayWhoIsSure_24 rfl (lv_at hl 2 rfl) ?_
      refine lv_iload_n hx hb dX4_sayWhoIsSure_25 rfl (lv_at hl 3 rfl) ?_
      refine lv_iload_n hx hb dX4_sayWhoIsSure_26 rfl (lv_at hl 3 rfl) ?_
      obtain ⟨x27, h27, hf⟩ := bd_of hf
      refine r_callV (k := ((3, 0) : Ky)) C hW hl lk_X4_95 (c_X4_spot hwf hj1 hc2 h27) ⟨rfl, rfl⟩ ⟨Nat.le_of_ble_eq_true rfl, Nat.le_of_ble_eq_true rfl⟩ rfl rfl rfl (As := [.ref (oa (13, j1)), .ref (oa (11, cl2)), .int v3, .int v3]) (rest := []) rfl rfl (Nat.le_of_ble_eq_true rfl) dX4_sayWhoIsSure_27 ⟨Nat.zero_le _, Nat.zero_le _⟩ (fun H locs hW => ?_)
      show W p l e (rmq 4 93) s m args below meth c H locs 0 0 Q (F0 m 30 ls [])
      refine lv_iconst (v := 0) hx hb dX4_sayWhoIsSure_30 (by decide) ?_
      refine lv_istore (lv' := [(4, .int (0 : Int32)), (0, .ref (oa (3, 0))), (1, .ref (oa (13, j1))), (2, .ref (oa (11, cl2))), (3, .int v3)]) hx hb dX4_sayWhoIsSure_31 hl (by decide) rfl (fun ls hl => ?_)
      have L33 : ∀ (μ : Mm) (v3 v4 : Int32) (H : Heap) (locs : List Loc) (ls : Array Slot), Wh (fun z : Mm × Int32 => f_X4_sayWhoIsSure_L33 sh ln j1 cl2 v3 z.1 z.2) (μ, v4) = some o1 → Wd D (faB oa aa sh) (feB tc oa aa sh ln) A s.heap μ H locs → lv_has ls 5 [(0, .ref (oa (3, 0))), (1, .ref (oa (13, j1))), (2, .ref (oa (11, cl2))), (3, .int v3), (4, .int v4)] → W p l e (rmq 4 93) s m args below meth c H locs 0 0 Q (F0 m 33 ls []) := by
        intro μ v3 v4 H locs ls hf hW hl
        refine Wh_rule hf (fun z : Mm × Int32 => ∀ (H : Heap) (locs : List Loc) (ls : Array Slot), Wd D (faB oa aa sh) (feB tc oa aa sh ln) A s.heap z.1 H locs → lv_has ls 5 [(0, .ref (oa (3, 0))), (1, .ref (oa (13, j1))), (2, .ref (oa (11, cl2))), (3, .int v3), (4, .int z.2)] → W p l e (rmq 4 93) s m args below meth c H locs 0 0 Q (F0 m 33 ls [])) (fun z o2 hf Kl2 Kr2 => ?_) _ _ _ hW hl
        obtain ⟨μ, v4⟩ := z
        intro H locs ls hW hl
        have hf : f_X4_sayWhoIsSure_L33 sh ln j1 cl2 v3 μ v4 = some o2 := hf
        unfold f_X4_sayWhoIsSure_L33 at hf
        have hW : Wd D (faB oa aa sh) (feB tc oa aa sh ln) A s.heap μ H locs := hW
        have hl : lv_has ls 5 [(0, .ref (oa (3, 0))), (1, .ref (oa (13, j1))), (2, .ref (oa (11, cl2))), (3, .int v3), (4, .int v4)] := hl
        refine lv_iload hx hb dX4_sayWhoIsSure_33 (lv_at hl 4 rfl) ?_
        refine lv_aload_n hx hb dX4_sayWhoIsSure_35 rfl (lv_at hl 1 rfl) ?_
        refine gf_X4_52 C hW hj1 dX4_sayWhoIsSure_36 ?_
        refine lv_icmp_ge (tgt := 76) hx hb dX4_sayWhoIsSure_39 (by decide) (fun c3 => ?_) (fun c3 => ?_)
        · have hf := (if_pos c3).symm.trans hf
          obtain ⟨x9004, hf, hx9004⟩ := map_of hf
          have e9004 := (Kr2 _ hx9004.symm).symm
          subst e9004
          refine lv_iinc (v := (v3 + (1 : Int32))) (lv' := [(3, .int (v3 + (1 : Int32))), (0, .ref (oa (3, 0))), (1, .ref (oa (13, j1))), (2, .ref (oa (11, cl2))), (4, .int v4)]) hx hb dX4_sayWhoIsSure_76 hl (k := 3) rfl rfl (by decide) rfl (fun ls hl => ?_)
          refine lv_goto (tgt := 14) hx hb dX4_sayWhoIsSure_79 (by decide) ?_
          obtain rfl := Option.some.inj hf
          exact Kl1 _ rfl _ _ _ hW (lv_sub hl [1, 2, 3, 0] rfl)
        · have hf := (if_neg c3).symm.trans hf
          refine lv_aload_n hx hb dX4_sayWhoIsSure_42 rfl (lv_at hl 0 rfl) ?_
          refine lv_aload_n hx hb dX4_sayWhoIsSure_43 rfl (lv_at hl 0 rfl) ?_
          refine lv_aload_n hx hb dX4_sayWhoIsSure_44 rfl (lv_at hl 1 rfl) ?_
          refine lv_iload_n hx hb dX4_sayWhoIsSure_45 rfl (lv_at hl 3 rfl) ?_
          refine lv_iload hx hb dX4_sayWhoIsSure_46 (lv_at hl 4 rfl) ?_
          obtain ⟨x48, h48, hf⟩ := bd_of hf
          refine r_callV (k := ((3, 0) : Ky)) C hW hl lk_X4_99 (c_X4_spotted hwf hj1 h48) ⟨rfl, rfl⟩ ⟨Nat.le_of_ble_eq_true rfl, Nat.le_of_ble_eq_true rfl⟩ rfl rfl rfl (As := [.ref (oa (13, j1)), .int v3, .int v4]) (rest := [.ref (oa (3, 0))]) rfl rfl (Nat.le_of_ble_eq_true rfl) dX4_sayWhoIsSure_48 ⟨Nat.zero_le _, Nat.zero_le _⟩ (fun H locs hW => ?_)
          show W p l e (rmq 4 93) s m args below meth c H locs 0 0 Q (F0 m 51 ls [.int x48, .ref (oa (3, 0))])
          obtain ⟨x51, h51, hf⟩ := bd_of hf
          refine r_callV (k := ((3, 0) : Ky)) C hW hl lk_X4_75 (c_X4_onlyOne h51) ⟨rfl, rfl⟩ ⟨Nat.le_of_ble_eq_true rfl, Nat.le_of_ble_eq_true rfl⟩ rfl rfl rfl (As := [.int x48]) (rest := []) rfl rfl (Nat.le_of_ble_eq_true rfl) dX4_sayWhoIsSure_51 ⟨Nat.zero_le _, Nat.zero_le _⟩ (fun H locs hW => ?_)
          show W p l e (rmq 4 93) s m args below meth c H locs 0 0 Q (F0 m 54 ls [.int x51])
          refine lv_iconst (v := -1) hx hb dX4_sayWhoIsSure_54 (by decide) ?_
          refine lv_icmp_eq (tgt := 70) hx hb dX4_sayWhoIsSure_55 (by decide) (fun c5 => ?_) (fun c5 => ?_)
          · have hf := (if_pos c5).symm.trans hf
            refine lv_iinc (v := (v4 + (1 : Int32))) (lv' := [(4, .int (v4 + (1 : Int32))), (0, .ref (oa (3, 0))), (1, .ref (oa (13, j1))), (2, .ref (oa (11, cl2))), (3, .int v3)]) hx hb dX4_sayWhoIsSure_70 hl (k := 4) rfl rfl (by decide) rfl (fun ls hl => ?_)
            refine lv_goto (tgt := 33) hx hb dX4_sayWhoIsSure_73 (by decide) ?_
            obtain rfl := Option.some.inj hf
            exact Kl2 _ rfl _ _ _ hW (lv_sub hl [1, 2, 3, 4, 0] rfl)
          · have hf := (if_neg c5).symm.trans hf
            refine lv_aload_n hx hb dX4_sayWhoIsSure_58 rfl (lv_at hl 0 rfl) ?_
            refine gf_X4_28 C hW dX4_sayWhoIsSure_59 ?_
            refine lv_iload hx hb dX4_sayWhoIsSure_62 (lv_at hl 4 rfl) ?_
            refine lv_iconst (v := 1) hx hb dX4_sayWhoIsSure_64 (by decide) ?_
            refine lv_iload_n hx hb dX4_sayWhoIsSure_65 rfl (lv_at hl 3 rfl) ?_
            refine lv_ishl hx hb dX4_sayWhoIsSure_66 ?_
            obtain ⟨x67, h67, hf⟩ := bd_of hf
            refine r_callV (k := ((11, 4) : Ky)) C hW hl lk_X4_107 (c_X1_addBits hwf rfl h67) ⟨rfl, rfl⟩ ⟨Nat.le_of_ble_eq_true rfl, Nat.le_of_ble_eq_true rfl⟩ rfl (faB_11 rfl) rfl (As := [.int v4, .int ((1 : Int32) <<< (v3 &&& 31))]) (rest := []) rfl rfl (Nat.le_of_ble_eq_true rfl) dX4_sayWhoIsSure_67 ⟨Nat.zero_le _, Nat.zero_le _⟩ (fun H locs hW => ?_)
            show W p l e (rmq 4 93) s m args below meth c H locs 0 0 Q (F0 m 70 ls [])
            refine lv_iinc (v := (v4 + (1 : Int32))) (lv' := [(4, .int (v4 + (1 : Int32))), (0, .ref (oa (3, 0))), (1, .ref (oa (13, j1))), (2, .ref (oa (11, cl2))), (3, .int v3)]) hx hb dX4_sayWhoIsSure_70 hl (k := 4) rfl rfl (by decide) rfl (fun ls hl => ?_)
            refine lv_goto (tgt := 33) hx hb dX4_sayWhoIsSure_73 (by decide) ?_
            obtain rfl := Option.some.inj hf
            exact Kl2 _ rfl _ _ _ hW (lv_sub hl [1, 2, 3, 4, 0] rfl)
      exact L33 x27 v3 (0 : Int32) _ _ _ hf hW (lv_sub hl [1, 2, 3, 4, 0] rfl)
  exact L14 x9 (0 : Int32) _ _ _ hf hW (lv_sub hl [1, 2, 3, 0] rfl)
