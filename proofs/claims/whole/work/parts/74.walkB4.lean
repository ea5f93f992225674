set_option maxHeartbeats 4000000 in
set_option maxRecDepth 100000 in
theorem c_X5_gatherPairs {l : Launch} {D : va_G} {tc : Nat → ClassId} {ro : Ro} {oa : Ky → Nat} {aa : Nat → Nat} {sh : Sh} {ln : Nat → Nat} {j1 : Nat} {μ : Mm} {v3 : Int32} {res : Mm} (hwf : WfS sh) (hj1 : sh 2 j1 = 1) (hf : f_X5_gatherPairs sh ln j1 μ v3 = some res) : Ct l D tc ro (faB oa aa sh) (feB tc oa aa sh ln) yX5_gatherPairs cX5_gatherPairs 7 none (rmq 3 68) [.ref (oa (5, 0)), .ref (oa (13, j1)), .ref (oa (2, 0)), .int v3] μ none res := by
  refine Ct.of (by decide) (Nat.le_of_ble_eq_true rfl) (fun p e s m args below meth c A C hr hk hW ls hl => ?_)
  have hx := C.1.1
  have hb := C.1.2.1
  obtain ⟨Q, hQ⟩ : ∃ Q, Q = MQ below (Ctq D (faB oa aa sh) (feB tc oa aa sh ln) none res A) args s 0 0 A := ⟨_, rfl⟩
  rw [← hQ]
  have hl : lv_has ls 7 [(0, .ref (oa (5, 0))), (1, .ref (oa (13, j1))), (2, .ref (oa (2, 0))), (3, .int v3)] := hl
  unfold f_X5_gatherPairs at hf
  refine lv_aload_n hx hb dX5_gatherPairs_0 rfl (lv_at hl 0 rfl) ?_
  refine gf_X5_28 C hW dX5_gatherPairs_1 ?_
  refine lv_iconst (v := 0) hx hb dX5_gatherPairs_4 (by decide) ?_
  refine lv_aload_n hx hb dX5_gatherPairs_5 rfl (lv_at hl 1 rfl) ?_
  refine gf_X5_42 C hW hj1 dX5_gatherPairs_6 ?_
  obtain ⟨x9, h9, hf⟩ := bd_of hf
  refine r_callV (k := ((11, 13) : Ky)) C hW hl lk_X5_152 (c_X1_fill hwf rfl h9) ⟨rfl, rfl⟩ ⟨Nat.le_of_ble_eq_true rfl, Nat.le_of_ble_eq_true rfl⟩ rfl (faB_11 rfl) rfl (As := [.int (0 : Int32), .int (μ (13, j1) 1)]) (rest := []) rfl rfl (Nat.le_of_ble_eq_true rfl) dX5_gatherPairs_9 ⟨Nat.zero_le _, Nat.zero_le _⟩ (fun H locs hW => ?_)
  show W p l e (rmq 3 68) s m args below meth c H locs 0 0 Q (F0 m 12 ls [])
  refine lv_iconst (v := 0) hx hb dX5_gatherPairs_12 (by decide) ?_
  refine lv_istore (lv' := [(4, .int (0 : Int32)), (0, .ref (oa (5, 0))), (1, .ref (oa (13, j1))), (2, .ref (oa (2, 0))), (3, .int v3)]) hx hb dX5_gatherPairs_13 hl (by decide) rfl (fun ls hl => ?_)
  have L15 : ∀ (μ : Mm) (v4 : Int32) (H : Heap) (locs : List Loc) (ls : Array Slot), Wh (fun z : Mm × Int32 => f_X5_gatherPairs_L15 sh ln j1 v3 z.1 z.2) (μ, v4) = some res → Wd D (faB oa aa sh) (feB tc oa aa sh ln) A s.heap μ H locs → lv_has ls 7 [(0, .ref (oa (5, 0))), (2, .ref (oa (2, 0))), (3, .int v3), (4, .int v4)] → W p l e (rmq 3 68) s m args below meth c H locs 0 0 Q (F0 m 15 ls []) := by
    intro μ v4 H locs ls hf hW hl
    refine Wh_rule hf (fun z : Mm × Int32 => ∀ (H : Heap) (locs : List Loc) (ls : Array Slot), Wd D (faB oa aa sh) (feB tc oa aa sh ln) A s.heap z.1 H locs → lv_has ls 7 [(0, .ref (oa (5, 0))), (2, .ref (oa (2, 0))), (3, .int v3), (4, .int z.2)] → W p l e (rmq 3 68) s m args below meth c H locs 0 0 Q (F0 m 15 ls [])) (fun z o1 hf Kl1 Kr1 => ?_) _ _ _ hW hl
    obtain ⟨μ, v4⟩ := z
    intro H locs ls hW hl
    have hf : f_X5_gatherPairs_L15 sh ln j1 v3 μ v4 = some o1 := hf
    unfold f_X5_gatherPairs_L15 at hf
    have hW : Wd D (faB oa aa sh) (feB tc oa aa sh ln) A s.heap μ H locs := hW
    have hl : lv_has ls 7 [(0, .ref (oa (5, 0))), (2, .ref (oa (2, 0))), (3, .int v3), (4, .int v4)] := hl
    refine lv_iload hx hb dX5_gatherPairs_15 (lv_at hl 3 rfl) ?_
    refine lv_iconst (v := 2) hx hb dX5_gatherPairs_17 (by decide) ?_
    refine lv_iadd hx hb dX5_gatherPairs_18 ?_
    refine lv_iload_n hx hb dX5_gatherPairs_19 rfl (lv_at hl 2 rfl) ?_
    refine lv_icmp_ge (tgt := 90) hx hb dX5_gatherPairs_20 (by decide) (fun c1 => ?_) (fun c1 => ?_)
    · have hf := (if_pos c1).symm.trans hf
      obtain ⟨x9002, hf, hx9002⟩ := map_of hf
      have e9002 := (Kr1 _ hx9002.symm).symm
      subst e9002
      obtain rfl := Option.some.inj hf
      rw [hQ]
      exact r_vret C hr hk hW rfl rfl dX5_gatherPairs_90
    · have hf := (if_neg c1).symm.trans hf
      refine lv_aload_n hx hb dX5_gatherPairs_23 rfl (lv_at hl 0 rfl) ?_
      refine lv_aload_n hx hb dX5_gatherPairs_24 rfl (lv_at hl 1 rfl) ?_
      refine lv_iload hx hb dX5_gatherPairs_25 (lv_at hl 3 rfl) ?_
      obtain ⟨x27, h27, hf⟩ := bd_of hf
      refine r_callV (k := ((5, 0) : Ky)) C hW hl lk_X5_129 (c_X5_personAt hwf h27) ⟨rfl, rfl⟩ ⟨Nat.le_of_ble_eq_true rfl, Nat.le_of_ble_eq_true rfl⟩ rfl rfl rfl (As := [.ref (oa (2, 0)), .int v4]) (rest := []) rfl rfl (Nat.le_of_ble_eq_true rfl) dX5_gatherPairs_27 ⟨Nat.zero_le _, Nat.zero_le _⟩ (fun H locs hW => ?_)
      show W p l e (rmq 3 68) s m args below meth c H locs 0 0 Q (F0 m 30 ls [.int x27])
      refine lv_istore (lv' := [(5, .int x27), (0, .ref (oa (5, 0))), (2, .ref (oa (2, 0))), (3, .int v3), (4, .int v4)]) hx hb dX5_gatherPairs_30 hl (by decide) rfl (fun ls hl => ?_)
      refine lv_aload_n hx hb dX5_gatherPairs_32 rfl (lv_at hl 1 rfl) ?_
      refine lv_aload_n hx hb dX5_gatherPairs_33 rfl (lv_at hl 2 rfl) ?_
      refine lv_iload hx hb dX5_gatherPairs_34 (lv_at hl 4 rfl) ?_
      refine lv_iconst (v := 1) hx hb dX5_gatherPairs_36 (by decide) ?_
      refine lv_iadd hx hb dX5_gatherPairs_37 ?_
      obtain ⟨x38, h38, hf⟩ := bd_of hf
      refine r_callV (k := ((5, 0) : Ky)) C hW hl lk_X5_129 (c_X5_personAt hwf h38) ⟨rfl, rfl⟩ ⟨Nat.le_of_ble_eq_true rfl, Nat.le_of_ble_eq_true rfl⟩ rfl rfl rfl (As := [.ref (oa (2, 0)), .int (v4 + (1 : Int32))]) (rest := []) rfl rfl (Nat.le_of_ble_eq_true rfl) dX5_gatherPairs_38 ⟨Nat.zero_le _, Nat.zero_le _⟩ (fun H locs hW => ?_)
      show W p l e (rmq 3 68) s m args below meth c H locs 0 0 Q (F0 m 41 ls [.int x38])
      refine lv_istore (lv' := [(6, .int x38), (5, .int x27), (0, .ref (oa (5, 0))), (2, .ref (oa (2, 0))), (3, .int v3), (4, .int v4)]) hx hb dX5_gatherPairs_41 hl (by decide) rfl (fun ls hl => ?_)
      refine lv_aload_n hx hb dX5_gatherPairs_43 rfl (lv_at hl 3 rfl) ?_
      refine lv_iload hx hb dX5_gatherPairs_44 (lv_at hl 5 rfl) ?_
      refine lv_iconst (v := 2) hx hb dX5_gatherPairs_46 (by decide) ?_
      refine lv_iadd hx hb dX5_gatherPairs_47 ?_
      obtain ⟨x48, h48, hf⟩ := bd_of hf
      refine r_callV (k := ((2, 0) : Ky)) C hW hl lk_X5_136 (c_X7_byteAt hwf h48) ⟨rfl, rfl⟩ ⟨Nat.le_of_ble_eq_true rfl, Nat.le_of_ble_eq_true rfl⟩ rfl rfl rfl (As := [.int (v4 + (2 : Int32))]) (rest := []) rfl rfl (Nat.le_of_ble_eq_true rfl) dX5_gatherPairs_48 ⟨Nat.zero_le _, Nat.zero_le _⟩ (fun H locs hW => ?_)
      show W p l e (rmq 3 68) s m args below meth c H locs 0 0 Q (F0 m 51 ls [.int x48])
      refine lv_iconst (v := 1) hx hb dX5_gatherPairs_51 (by decide) ?_
      refine lv_icmp_ne (tgt := 71) hx hb dX5_gatherPairs_52 (by decide) (fun c3 => ?_) (fun c3 => ?_)
      · have hf := (if_neg c3).symm.trans hf
        refine lv_aload_n hx hb dX5_gatherPairs_71 rfl (lv_at hl 2 rfl) ?_
        refine gf_X5_28 C hW dX5_gatherPairs_72 ?_
        refine lv_iload hx hb dX5_gatherPairs_75 (lv_at hl 1 rfl) ?_
        refine lv_iconst (v := 1) hx hb dX5_gatherPairs_77 (by decide) ?_
        refine lv_iload hx hb dX5_gatherPairs_78 (lv_at hl 0 rfl) ?_
        refine lv_ishl hx hb dX5_gatherPairs_80 ?_
        obtain ⟨x81, h81, hf⟩ := bd_of hf
        refine r_callV (k := ((11, 13) : Ky)) C hW hl lk_X5_155 (c_X1_addBits hwf rfl h81) ⟨rfl, rfl⟩ ⟨Nat.le_of_ble_eq_true rfl, Nat.le_of_ble_eq_true rfl⟩ rfl (faB_11 rfl) rfl (As := [.int x27, .int ((1 : Int32) <<< (x38 &&& 31))]) (rest := []) rfl rfl (Nat.le_of_ble_eq_true rfl) dX5_gatherPairs_81 ⟨Nat.zero_le _, Nat.zero_le _⟩ (fun H locs hW => ?_)
        show W p l e (rmq 3 68) s m args below meth c H locs 0 0 Q (F0 m 84 ls [])
        refine lv_iinc (v := (v4 + (3 : Int32))) (lv' := [(4, .int (v4 + (3 : Int32))), (6, .int x38), (5, .int x27), (0, .ref (oa (5, 0))), (2, .ref (oa (2, 0))), (3, .int v3)]) hx hb dX5_gatherPairs_84 hl (k := 5) rfl rfl (by decide) rfl (fun ls hl => ?_)
        refine lv_goto (tgt := 15) hx hb dX5_gatherPairs_87 (by decide) ?_
        obtain rfl := Option.some.inj hf
        exact Kl1 _ rfl _ _ _ hW (lv_sub hl [3, 4, 5, 0] rfl)
      · have hf := (if_pos c3).symm.trans hf
        refine lv_aload_n hx hb dX5_gatherPairs_55 rfl (lv_at hl 2 rfl) ?_
        refine gf_X5_28 C hW dX5_gatherPairs_56 ?_
        refine lv_iload hx hb dX5_gatherPairs_59 (lv_at hl 0 rfl) ?_
        refine lv_iconst (v := 1) hx hb dX5_gatherPairs_61 (by decide) ?_
        refine lv_iload hx hb dX5_gatherPairs_62 (lv_at hl 1 rfl) ?_
        refine lv_ishl hx hb dX5_gatherPairs_64 ?_
        obtain ⟨x65, h65, hf⟩ := bd_of hf
        refine r_callV (k := ((11, 13) : Ky)) C hW hl lk_X5_155 (c_X1_addBits hwf rfl h65) ⟨rfl, rfl⟩ ⟨Nat.le_of_ble_eq_true rfl, Nat.le_of_ble_eq_true rfl⟩ rfl (faB_11 rfl) rfl (As := [.int x38, .int ((1 : Int32) <<< (x27 &&& 31))]) (rest := []) rfl rfl (Nat.le_of_ble_eq_true rfl) dX5_gatherPairs_65 ⟨Nat.zero_le _, Nat.zero_le _⟩ (fun H locs hW => ?_)
        show W p l e (rmq 3 68) s m args below meth c H locs 0 0 Q (F0 m 68 ls [])
        refine lv_goto (tgt := 84) hx hb dX5_gatherPairs_68 (by decide) ?_
        refine lv_iinc (v := (v4 + (3 : Int32))) (lv' := [(4, .int (v4 + (3 : Int32))), (6, .int x38), (5, .int x27), (0, .ref (oa (5, 0))), (2, .ref (oa (2, 0))), (3, .int v3)]) hx hb dX5_gatherPairs_84 hl (k := 5) rfl rfl (by decide) rfl (fun ls hl => ?_)
        refine lv_goto (tgt := 15) hx hb dX5_gatherPairs_87 (by decide) ?_
        obtain rfl := Option.some.inj hf
        exact Kl1 _ rfl _ _ _ hW (lv_sub hl [3, 4, 5, 0] rfl)
  exact L15 x9 (0 : Int32) _ _ _ hf hW (lv_sub hl [1, 3, 4, 0] rfl)
set_option maxHeartbeats 4000000 in
set_option maxRecDepth 100000 in
theorem c_X5_mayFollow {l : Launch} {D : va_G} {tc : Nat → ClassId} {ro : Ro} {oa : Ky → Nat} {aa : Nat → Nat} {sh : Sh} {ln : Nat → Nat} {μ : Mm} {v1 v2 : Int32} {res : Int32} (hwf : WfS sh) (hf : f_X5_mayFollow sh ln μ v1 v2 = some res) : Ct l D tc ro (faB oa aa sh) (feB tc oa aa sh ln) yX5_mayFollow cX5_mayFollow 3 (some .boolean) (rmq 1 21) [.ref (oa (5, 0)), .int v1, .int v2] μ (some (.int res)) μ := by
  refine Ct.of (by decide) (Nat.le_of_ble_eq_true rfl) (fun p e s m args below meth c A C hr hk hW ls hl => ?_)
  have hx := C.1.1
  have hb := C.1.2.1
  obtain ⟨Q, hQ⟩ : ∃ Q, Q = MQ below (Ctq D (faB oa aa sh) (feB tc oa aa sh ln) (some (.int res)) μ A) args s 0 0 A := ⟨_, rfl⟩
  rw [← hQ]
  have hl : lv_has ls 3 [(0, .ref (oa (5, 0))), (1, .int v1), (2, .int v2)] := hl
  unfold f_X5_mayFollow at hf
  refine lv_iload_n hx hb dX5_mayFollow_0 rfl (lv_at hl 1 rfl) ?_
  refine lv_iload_n hx hb dX5_mayFollow_1 rfl (lv_at hl 2 rfl) ?_
  refine lv_ishr hx hb dX5_mayFollow_2 ?_
  refine lv_iconst (v := 1) hx hb dX5_mayFollow_3 (by decide) ?_
  refine lv_iand hx hb dX5_mayFollow_4 ?_
  refine lv_if_ne (tgt := 27) hx hb dX5_mayFollow_5 (by decide) (fun c1 => ?_) (fun c1 => ?_)
  · have hf := (if_neg c1).symm.trans hf
    refine lv_iconst (v := 0) hx hb dX5_mayFollow_27 (by decide) ?_
    obtain rfl := Option.some.inj hf
    rw [hQ]
    exact r_zret C hr hk hW (Or.inl rfl) rfl rfl dX5_mayFollow_28
  · have hf := (if_pos c1).symm.trans hf
    refine lv_aload_n hx hb dX5_mayFollow_8 rfl (lv_at hl 0 rfl) ?_
    refine gf_X5_28 C hW dX5_mayFollow_9 ?_
    refine lv_iload_n hx hb dX5_mayFollow_12 rfl (lv_at hl 2 rfl) ?_
    obtain ⟨x13, h13, hf⟩ := bd_of hf
    refine r_callV (k := ((11, 13) : Ky)) C hW hl lk_X5_83 (c_X1_at hwf rfl h13) ⟨rfl, rfl⟩ ⟨Nat.le_of_ble_eq_true rfl, Nat.le_of_ble_eq_true rfl⟩ rfl (faB_11 rfl) rfl (As := [.int v2]) (rest := []) rfl rfl (Nat.le_of_ble_eq_true rfl) dX5_mayFollow_13 ⟨Nat.zero_le _, Nat.zero_le _⟩ (fun H locs hW => ?_)
    show W p l e (rmq 1 21) s m args below meth c H locs 0 0 Q (F0 m 16 ls [.int x13])
    refine lv_iload_n hx hb dX5_mayFollow_16 rfl (lv_at hl 1 rfl) ?_
    refine lv_iconst (v := -1) hx hb dX5_mayFollow_17 (by decide) ?_
    refine lv_ixor hx hb dX5_mayFollow_18 ?_
    refine lv_iand hx hb dX5_mayFollow_19 ?_
    refine lv_if_ne (tgt := 27) hx hb dX5_mayFollow_20 (by decide) (fun c2 => ?_) (fun c2 => ?_)
    · have hf := (if_neg c2).symm.trans hf
      refine lv_iconst (v := 0) hx hb dX5_mayFollow_27 (by decide) ?_
      obtain rfl := Option.some.inj hf
      rw [hQ]
      exact r_zret C hr hk hW (Or.inl rfl) rfl rfl dX5_mayFollow_28
    · have hf := (if_pos c2).symm.trans hf
      refine lv_iconst (v := 1) hx hb dX5_mayFollow_23 (by decide) ?_
      refine lv_goto (tgt := 28) hx hb dX5_mayFollow_24 (by decide) ?_
      obtain rfl := Option.some.inj hf
      rw [hQ]
      exact r_zret C hr hk hW (Or.inr rfl) rfl rfl dX5_mayFollow_28
set_option maxHeartbeats 4000000 in
set_option maxRecDepth 100000 in
theorem c_X5_placeInRow {l : Launch} {D : va_G} {tc : Nat → ClassId} {ro : Ro} {oa : Ky → Nat} {aa : Nat → Nat} {sh : Sh} {ln : Nat → Nat} {j1 : Nat} {μ : Mm} {v2 : Int32} {res : Int32} (hwf : WfS sh) (hj1 : sh 2 j1 = 1) (hf : f_X5_placeInRow sh ln j1 μ v2 = some res) : Ct l D tc ro (faB oa aa sh) (feB tc oa aa sh ln) yX5_placeInRow cX5_placeInRow 7 (some .int) (rmq 2 43) [.ref (oa (5, 0)), .ref (oa (13, j1)), .int v2] μ (some (.int res)) μ := by
  refine Ct.of (by decide) (Nat.le_of_ble_eq_true rfl) (fun p e s m args below meth c A C hr hk hW ls hl => ?_)
  have hx := C.1.1
  have hb := C.1.2.1
  obtain ⟨Q, hQ⟩ : ∃ Q, Q = MQ below (Ctq D (faB oa aa sh) (feB tc oa aa sh ln) (some (.int res)) μ A) args s 0 0 A := ⟨_, rfl⟩
  rw [← hQ]
  have hl : lv_has ls 7 [(0, .ref (oa (5, 0))), (1, .ref (oa (13, j1))), (2, .int v2)] := hl
  unfold f_X5_placeInRow at hf
  refine lv_iconst (v := 0) hx hb dX5_placeInRow_0 (by decide) ?_
  refine lv_istore_n (lv' := [(3, .int (0 : Int32)), (0, .ref (oa (5, 0))), (1, .ref (oa (13, j1))), (2, .int v2)]) hx hb dX5_placeInRow_1 rfl hl (by decide) rfl (fun ls hl => ?_)
  refine lv_iconst (v := 0) hx hb dX5_placeInRow_2 (by decide) ?_
  refine lv_istore (lv' := [(4, .int (0 : Int32)), (3, .int (0 : Int32)), (0, .ref (oa (5, 0))), (1, .ref (oa (13, j1))), (2, .int v2)]) hx hb dX5_placeInRow_3 hl (by decide) rfl (fun ls hl => ?_)
  have L5 : ∀ (v3 v4 : Int32) (H : Heap) (locs : List Loc) (ls : Array Slot), Wh (fun z : Int32 × Int32 => f_X5_placeInRow_L5 sh ln j1 v2 μ z.1 z.2) (v3, v4) = some res → Wd D (faB oa aa sh) (feB tc oa aa sh ln) A s.heap μ H locs → lv_has ls 7 [(0, .ref (oa (5, 0))), (1, .ref (oa (13, j1))), (2, .int v2), (3, .int v3), (4, .int v4)] → W p l e (rmq 2 43) s m args below meth c H locs 0 0 Q (F0 m 5 ls []) := by
    intro v3 v4 H locs ls hf hW hl
    refine Wh_rule hf (fun z : Int32 × Int32 => ∀ (H : Heap) (locs : List Loc) (ls : Array Slot), Wd D (faB oa aa sh) (feB tc oa aa sh ln) A s.heap μ H locs → lv_has ls 7 [(0, .ref (oa (5, 0))), (1, .ref (oa (13, j1))), (2, .int v2), (3, .int z.1), (4, .int z.2)] → W p l e (rmq 2 43) s m args below meth c H locs 0 0 Q (F0 m 5 ls [])) (fun z o1 hf Kl1 Kr1 => ?_) _ _ _ hW hl
    obtain ⟨v3, v4⟩ := z
    intro H locs ls hW hl
    have hf : f_X5_placeInRow_L5 sh ln j1 v2 μ v3 v4 = some o1 := hf
    unfold f_X5_placeInRow_L5 at hf
    have hW : Wd D (faB oa aa sh) (feB tc oa aa sh ln) A s.heap μ H locs := hW
    have hl : lv_has ls 7 [(0, .ref (oa (5, 0))), (1, .ref (oa (13, j1))), (2, .int v2), (3, .int v3), (4, .int v4)] := hl
    refine lv_iload hx hb dX5_placeInRow_5 (lv_at hl 4 rfl) ?_
    refine lv_aload_n hx hb dX5_placeInRow_7 rfl (lv_at hl 1 rfl) ?_
    refine gf_X5_42 C hW hj1 dX5_placeInRow_8 ?_
    refine lv_icmp_ge (tgt := 94) hx hb dX5_placeInRow_11 (by decide) (fun c1 => ?_) (fun c1 => ?_)
    · have hf := (if_pos c1).symm.trans hf
      obtain ⟨x9002, hf, hx9002⟩ := map_of hf
      have e9002 := (Kr1 _ hx9002.symm).symm
      subst e9002
      refine lv_iconst (v := -1) hx hb dX5_placeInRow_94 (by decide) ?_
      obtain rfl := Option.some.inj hf
      rw [hQ]
      exact r_iret C hr hk hW rfl rfl dX5_placeInRow_95
    · have hf := (if_neg c1).symm.trans hf
      refine lv_iconst (v := -1) hx hb dX5_placeInRow_14 (by decide) ?_
      refine lv_istore (lv' := [(5, .int (-1 : Int32)), (0, .ref (oa (5, 0))), (1, .ref (oa (13, j1))), (2, .int v2), (3, .int v3), (4, .int v4)]) hx hb dX5_placeInRow_15 hl (by decide) rfl (fun ls hl => ?_)
      refine lv_aload_n hx hb dX5_placeInRow_17 rfl (lv_at hl 2 rfl) ?_
      refine gf_X5_42 C hW hj1 dX5_placeInRow_18 ?_
      refine lv_iconst (v := 1) hx hb dX5_placeInRow_21 (by decide) ?_
      refine lv_isub hx hb dX5_placeInRow_22 ?_
      refine lv_istore (lv' := [(6, .int ((μ (13, j1) 1) - (1 : Int32))), (5, .int (-1 : Int32)), (0, .ref (oa (5, 0))), (1, .ref (oa (13, j1))), (2, .int v2), (3, .int v3), (4, .int v4)]) hx hb dX5_placeInRow_23 hl (by decide) rfl (fun ls hl => ?_)
      have L25 : ∀ (v3 v4 v5 v6 : Int32) (H : Heap) (locs : List Loc) (ls : Array Slot), Wh (fun z : Int32 × Int32 => f_X5_placeInRow_L25 sh ln j1 v2 v3 v4 μ z.1 z.2) (v5, v6) = some o1 → Wd D (faB oa aa sh) (feB tc oa aa sh ln) A s.heap μ H locs → lv_has ls 7 [(0, .ref (oa (5, 0))), (1, .ref (oa (13, j1))), (2, .int v2), (3, .int v3), (4, .int v4), (5, .int v5), (6, .int v6)] → W p l e (rmq 2 43) s m args below meth c H locs 0 0 Q (F0 m 25 ls []) := by
        intro v3 v4 v5 v6 H locs ls hf hW hl
        refine Wh_rule hf (fun z : Int32 × Int32 => ∀ (H : Heap) (locs : List Loc) (ls : Array Slot), Wd D (faB oa aa sh) (feB tc oa aa sh ln) A s.heap μ H locs → lv_has ls 7 [(0, .ref (oa (5, 0))), (1, .ref (oa (13, j1))), (2, .int v2), (3, .int v3), (4, .int v4), (5, .int z.1), (6, .int z.2)] → W p l e (rmq 2 43) s m args below meth c H locs 0 0 Q (F0 m 25 ls [])) (fun z o2 hf Kl2 Kr2 => ?_) _ _ _ hW hl
        obtain ⟨v5, v6⟩ := z
        intro H locs ls hW hl
        have hf : f_X5_placeInRow_L25 sh ln j1 v2 v3 v4 μ v5 v6 = some o2 := hf
        unfold f_X5_placeInRow_L25 at hf
        have hW : Wd D (faB oa aa sh) (feB tc oa aa sh ln) A s.heap μ H locs := hW
        have hl : lv_has ls 7 [(0, .ref (oa (5, 0))), (1, .ref (oa (13, j1))), (2, .int v2), (3, .int v3), (4, .int v4), (5, .int v5), (6, .int v6)] := hl
        refine lv_iload hx hb dX5_placeInRow_25 (lv_at hl 6 rfl) ?_
        refine lv_if_lt (tgt := 66) hx hb dX5_placeInRow_27 (by decide) (fun c3 => ?_) (fun c3 => ?_)
        · have hf := (if_pos c3).symm.trans hf
          obtain ⟨x9008, hf, hx9008⟩ := map_of hf
          have e9008 := (Kr2 _ hx9008.symm).symm
          subst e9008
          refine lv_iload hx hb dX5_placeInRow_66 (lv_at hl 5 rfl) ?_
          refine lv_iconst (v := -1) hx hb dX5_placeInRow_68 (by decide) ?_
          refine lv_icmp_eq (tgt := 78) hx hb dX5_placeInRow_69 (by decide) (fun c4 => ?_) (fun c4 => ?_)
          · have hf := (if_pos c4).symm.trans hf
            obtain ⟨x9005, hf, hx9005⟩ := map_of hf
            have e9005 := (Kr1 _ hx9005.symm).symm
            subst e9005
            refine lv_iload hx hb dX5_placeInRow_78 (lv_at hl 5 rfl) ?_
            obtain rfl := Option.some.inj hf
            rw [hQ]
            exact r_iret C hr hk hW rfl rfl dX5_placeInRow_80
          · have hf := (if_neg c4).symm.trans hf
            refine lv_iload hx hb dX5_placeInRow_72 (lv_at hl 4 rfl) ?_
            refine lv_iload_n hx hb dX5_placeInRow_74 rfl (lv_at hl 2 rfl) ?_
            refine lv_icmp_ne (tgt := 81) hx hb dX5_placeInRow_75 (by decide) (fun c6 => ?_) (fun c6 => ?_)
            · have hf := (if_neg c6).symm.trans hf
              refine lv_iload_n hx hb dX5_placeInRow_81 rfl (lv_at hl 3 rfl) ?_
              refine lv_iconst (v := 1) hx hb dX5_placeInRow_82 (by decide) ?_
              refine lv_iload hx hb dX5_placeInRow_83 (lv_at hl 5 rfl) ?_
              refine lv_ishl hx hb dX5_placeInRow_85 ?_
              refine lv_ior hx hb dX5_placeInRow_86 ?_
              refine lv_istore_n (lv' := [(3, .int (v3 ||| ((1 : Int32) <<< (v5 &&& 31)))), (0, .ref (oa (5, 0))), (1, .ref (oa (13, j1))), (2, .int v2), (4, .int v4), (5, .int v5), (6, .int v6)]) hx hb dX5_placeInRow_87 rfl hl (by decide) rfl (fun ls hl => ?_)
              refine lv_iinc (v := (v4 + (1 : Int32))) (lv' := [(4, .int (v4 + (1 : Int32))), (3, .int (v3 ||| ((1 : Int32) <<< (v5 &&& 31)))), (0, .ref (oa (5, 0))), (1, .ref (oa (13, j1))), (2, .int v2), (5, .int v5), (6, .int v6)]) hx hb dX5_placeInRow_88 hl (k := 4) rfl rfl (by decide) rfl (fun ls hl => ?_)
              refine lv_goto (tgt := 5) hx hb dX5_placeInRow_91 (by decide) ?_
              obtain rfl := Option.some.inj hf
              exact Kl1 _ rfl _ _ _ hW (lv_sub hl [2, 3, 4, 1, 0] rfl)
            · have hf := (if_pos c6).symm.trans hf
              obtain ⟨x9007, hf, hx9007⟩ := map_of hf
              have e9007 := (Kr1 _ hx9007.symm).symm
              subst e9007
              refine lv_iload hx hb dX5_placeInRow_78 (lv_at hl 5 rfl) ?_
              obtain rfl := Option.some.inj hf
              rw [hQ]
              exact r_iret C hr hk hW rfl rfl dX5_placeInRow_80
        · have hf := (if_neg c3).symm.trans hf
          refine lv_aload_n hx hb dX5_placeInRow_30 rfl (lv_at hl 0 rfl) ?_
          refine lv_iload_n hx hb dX5_placeInRow_31 rfl (lv_at hl 3 rfl) ?_
          refine lv_iload hx hb dX5_placeInRow_32 (lv_at hl 6 rfl) ?_
          obtain ⟨x34, h34, hf⟩ := bd_of hf
          refine r_callV (k := ((5, 0) : Ky)) C hW hl lk_X5_145 (c_X5_mayFollow hwf h34) ⟨rfl, rfl⟩ ⟨Nat.le_of_ble_eq_true rfl, Nat.le_of_ble_eq_true rfl⟩ rfl rfl rfl (As := [.int v3, .int v6]) (rest := []) rfl rfl (Nat.le_of_ble_eq_true rfl) dX5_placeInRow_34 ⟨Nat.zero_le _, Nat.zero_le _⟩ (fun H locs hW => ?_)
          show W p l e (rmq 2 43) s m args below meth c H locs 0 0 Q (F0 m 37 ls [.int x34])
          refine lv_if_eq (tgt := 60) hx hb dX5_placeInRow_37 (by decide) (fun c9 => ?_) (fun c9 => ?_)
          · have hf := (if_pos c9).symm.trans hf
            refine lv_iinc (v := (v6 + (-1 : Int32))) (lv' := [(6, .int (v6 + (-1 : Int32))), (0, .ref (oa (5, 0))), (1, .ref (oa (13, j1))), (2, .int v2), (3, .int v3), (4, .int v4), (5, .int v5)]) hx hb dX5_placeInRow_60 hl (k := 6) rfl rfl (by decide) rfl (fun ls hl => ?_)
            refine lv_goto (tgt := 25) hx hb dX5_placeInRow_63 (by decide) ?_
            obtain rfl := Option.some.inj hf
            exact Kl2 _ rfl _ _ _ hW (lv_sub hl [1, 2, 3, 4, 5, 6, 0] rfl)
          · have hf := (if_neg c9).symm.trans hf
            refine lv_aload_n hx hb dX5_placeInRow_40 rfl (lv_at hl 0 rfl) ?_
            refine gf_X5_22 C hW dX5_placeInRow_41 ?_
            refine lv_iload_n hx hb dX5_placeInRow_44 rfl (lv_at hl 3 rfl) ?_
            refine lv_iconst (v := 1) hx hb dX5_placeInRow_45 (by decide) ?_
            refine lv_iload hx hb dX5_placeInRow_46 (lv_at hl 6 rfl) ?_
            refine lv_ishl hx hb dX5_placeInRow_48 ?_
            refine lv_ior hx hb dX5_placeInRow_49 ?_
            obtain ⟨x50, h50, hf⟩ := bd_of hf
            refine r_callV (k := ((11, 11) : Ky)) C hW hl lk_X5_83 (c_X1_at hwf rfl h50) ⟨rfl, rfl⟩ ⟨Nat.le_of_ble_eq_true rfl, Nat.le_of_ble_eq_true rfl⟩ rfl (faB_11 rfl) rfl (As := [.int (v3 ||| ((1 : Int32) <<< (v6 &&& 31)))]) (rest := []) rfl rfl (Nat.le_of_ble_eq_true rfl) dX5_placeInRow_50 ⟨Nat.zero_le _, Nat.zero_le _⟩ (fun H locs hW => ?_)
            show W p l e (rmq 2 43) s m args below meth c H locs 0 0 Q (F0 m 53 ls [.int x50])
            refine lv_if_le (tgt := 60) hx hb dX5_placeInRow_53 (by decide) (fun c10 => ?_) (fun c10 => ?_)
            · have hf := (if_pos c10).symm.trans hf
              refine lv_iinc (v := (v6 + (-1 : Int32))) (lv' := [(6, .int (v6 + (-1 : Int32))), (0, .ref (oa (5, 0))), (1, .ref (oa (13, j1))), (2, .int v2), (3, .int v3), (4, .int v4), (5, .int v5)]) hx hb dX5_placeInRow_60 hl (k := 6) rfl rfl (by decide) rfl (fun ls hl => ?_)
              refine lv_goto (tgt := 25) hx hb dX5_placeInRow_63 (by decide) ?_
              obtain rfl := Option.some.inj hf
              exact Kl2 _ rfl _ _ _ hW (lv_sub hl [1, 2, 3, 4, 5, 6, 0] rfl)
            · have hf := (if_neg c10).symm.trans hf
              refine lv_iload hx hb dX5_placeInRow_56 (lv_at hl 6 rfl) ?_
              refine lv_istore (lv' := [(5, .int v6), (0, .ref (oa (5, 0))), (1, .ref (oa (13, j1))), (2, .int v2), (3, .int v3), (4, .int v4), (6, .int v6)]) hx hb dX5_placeInRow_58 hl (by decide) rfl (fun ls hl => ?_)
              refine lv_iinc (v := (v6 + (-1 : Int32))) (lv' := [(6, .int (v6 + (-1 : Int32))), (5, .int v6), (0, .ref (oa (5, 0))), (1, .ref (oa (13, j1))), (2, .int v2), (3, .int v3), (4, .int v4)]) hx hb dX5_placeInRow_60 hl (k := 6) rfl rfl (by decide) rfl (fun ls hl => ?_)
              refine lv_goto (tgt := 25) hx hb dX5_placeInRow_63 (by decide) ?_
              obtain rfl := Option.some.inj hf
              exact Kl2 _ rfl _ _ _ hW (lv_sub hl [2, 3, 4, 5, 6, 1, 0] rfl)
      exact L25 v3 v4 (-1 : Int32) ((μ (13, j1) 1) - (1 : Int32)) _ _ _ hf hW (lv_sub hl [2, 3, 4, 5, 6, 1, 0] rfl)
  exact L5 (0 : Int32) (0 : Int32) _ _ _ hf hW (lv_sub hl [2, 3, 4, 1, 0] rfl)
set_option maxHeartbeats 4000000 in
set_option maxRecDepth 100000 in
theorem c_X5_standInRow {l : Launch} {D : va_G} {tc : Nat → ClassId} {ro : Ro} {oa : Ky → Nat} {aa : Nat → Nat} {sh : Sh} {ln : Nat → Nat} {j1 : Nat} {μ : Mm} {v3 v4 : Int32} {res : Int32 × Mm} (hwf : WfS sh) (hj1 : sh 2 j1 = 1) (hf : f_X5_standInRow sh ln j1 μ v3 v4 = some res) : Ct l D tc ro (faB oa aa sh) (feB tc oa aa sh ln) yX5_standInRow cX5_standInRow 9 (some .int) (rmq 4 94) [.ref (oa (5, 0)), .ref (oa (13, j1)), .ref (oa (2, 0)), .int v3, .int v4] μ (some (.int res.1)) res.2 := by
  refine Ct.of (by decide) (Nat.le_of_ble_eq_true rfl) (fun p e s m args below meth c A C hr hk hW ls hl => ?_)
  have hx := C.1.1
  have hb := C.1.2.1
  obtain ⟨Q, hQ⟩ : ∃ Q, Q = MQ below (Ctq D (faB oa aa sh) (feB tc oa aa sh ln) (some (.int res.1)) res.2 A) args s 0 0 A := ⟨_, rfl⟩
  rw [← hQ]
  have hl : lv_has ls 9 [(0, .ref (oa (5, 0))), (1, .ref (oa (13, j1))), (2, .ref (oa (2, 0))), (3, .int v3), (4, .int v4)] := hl
  unfold f_X5_standInRow at hf
  refine lv_aload_n hx hb dX5_standInRow_0 rfl (lv_at hl 1 rfl) ?_
  refine gf_X5_42 C hW hj1 dX5_standInRow_1 ?_
  refine lv_bipush (v := 7) hx hb dX5_standInRow_4 (by decide) ?_
  refine lv_icmp_le (tgt := 12) hx hb dX5_standInRow_6 (by decide) (fun c1 => ?_) (fun c1 => ?_)
  · have hf := (if_pos c1).symm.trans hf
    refine lv_aload_n hx hb dX5_standInRow_12 rfl (lv_at hl 0 rfl) ?_
    refine lv_aload_n hx hb dX5_standInRow_13 rfl (lv_at hl 1 rfl) ?_
    refine lv_aload_n hx hb dX5_standInRow_14 rfl (lv_at hl 2 rfl) ?_
    refine lv_iload_n hx hb dX5_standInRow_15 rfl (lv_at hl 3 rfl) ?_
    obtain ⟨x16, h16, hf⟩ := bd_of hf
    refine r_callV (k := ((5, 0) : Ky)) C hW hl lk_X5_141 (c_X5_gatherPairs hwf hj1 h16) ⟨rfl, rfl⟩ ⟨Nat.le_of_ble_eq_true rfl, Nat.le_of_ble_eq_true rfl⟩ rfl rfl rfl (As := [.ref (oa (13, j1)), .ref (oa (2, 0)), .int v3]) (rest := []) rfl rfl (Nat.le_of_ble_eq_true rfl) dX5_standInRow_16 ⟨Nat.zero_le _, Nat.zero_le _⟩ (fun H locs hW => ?_)
    show W p l e (rmq 4 94) s m args below meth c H locs 0 0 Q (F0 m 19 ls [])
    refine lv_iconst (v := 1) hx hb dX5_standInRow_19 (by decide) ?_
    refine lv_aload_n hx hb dX5_standInRow_20 rfl (lv_at hl 1 rfl) ?_
    refine gf_X5_42 C hW hj1 dX5_standInRow_21 ?_
    refine lv_ishl hx hb dX5_standInRow_24 ?_
    refine lv_iconst (v := 1) hx hb dX5_standInRow_25 (by decide) ?_
    refine lv_isub hx hb dX5_standInRow_26 ?_
    refine lv_istore (lv' := [(5, .int (((1 : Int32) <<< ((x16 (13, j1) 1) &&& 31)) - (1 : Int32))), (0, .ref (oa (5, 0))), (1, .ref (oa (13, j1))), (2, .ref (oa (2, 0))), (3, .int v3), (4, .int v4)]) hx hb dX5_standInRow_27 hl (by decide) rfl (fun ls hl => ?_)
    refine lv_aload_n hx hb dX5_standInRow_29 rfl (lv_at hl 1 rfl) ?_
    refine gf_X5_22 C hW dX5_standInRow_30 ?_
    refine lv_iload hx hb dX5_standInRow_33 (lv_at hl 0 rfl) ?_
    refine lv_iconst (v := 1) hx hb dX5_standInRow_35 (by decide) ?_
    obtain ⟨x36, h36, hf⟩ := bd_of hf
    refine r_callV (k := ((11, 11) : Ky)) C hW hl lk_X5_79 (c_X1_put hwf rfl h36) ⟨rfl, rfl⟩ ⟨Nat.le_of_ble_eq_true rfl, Nat.le_of_ble_eq_true rfl⟩ rfl (faB_11 rfl) rfl (As := [.int (((1 : Int32) <<< ((x16 (13, j1) 1) &&& 31)) - (1 : Int32)), .int (1 : Int32)]) (rest := []) rfl rfl (Nat.le_of_ble_eq_true rfl) dX5_standInRow_36 ⟨Nat.zero_le _, Nat.zero_le _⟩ (fun H locs hW => ?_)
    show W p l e (rmq 4 94) s m args below meth c H locs 0 0 Q (F0 m 39 ls [])
    refine lv_iload hx hb dX5_standInRow_39 (lv_at hl 0 rfl) ?_
    refine lv_iconst (v := 1) hx hb dX5_standInRow_41 (by decide) ?_
    refine lv_isub hx hb dX5_standInRow_42 ?_
    refine lv_istore (lv' := [(6, .int ((((1 : Int32) <<< ((x16 (13, j1) 1) &&& 31)) - (1 : Int32)) - (1 : Int32))), (5, .int (((1 : Int32) <<< ((x16 (13, j1) 1) &&& 31)) - (1 : Int32))), (0, .ref (oa (5, 0))), (1, .ref (oa (13, j1))), (2, .ref (oa (2, 0))), (3, .int v3), (4, .int v4)]) hx hb dX5_standInRow_43 hl (by decide) rfl (fun ls hl => ?_)
    have L45 : ∀ (μ : Mm) (v6 : Int32) (H : Heap) (locs : List Loc) (ls : Array Slot), Wh (fun z : Mm × Int32 => f_X5_standInRow_L45 sh ln j1 v4 z.1 z.2) (μ, v6) = some res → Wd D (faB oa aa sh) (feB tc oa aa sh ln) A s.heap μ H locs → lv_has ls 9 [(0, .ref (oa (5, 0))), (1, .ref (oa (13, j1))), (4, .int v4), (6, .int v6)] → W p l e (rmq 4 94) s m args below meth c H locs 0 0 Q (F0 m 45 ls []) := by
      intro μ v6 H locs ls hf hW hl
      refine Wh_rule hf (fun z : Mm × Int32 => ∀ (H : Heap) (locs : List Loc) (ls : Array Slot), Wd D (faB oa aa sh) (feB tc oa aa sh ln) A s.heap z.1 H locs → lv_has ls 9 [(0, .ref (oa (5, 0))), (1, .ref (oa (13, j1))), (4, .int v4), (6, .int z.2)] → W p l e (rmq 4 94) s m args below meth c H locs 0 0 Q (F0 m 45 ls [])) (fun z o1 hf Kl1 Kr1 => ?_) _ _ _ hW hl
      obtain ⟨μ, v6⟩ := z
      intro H locs ls hW hl
      have hf : f_X5_standInRow_L45 sh ln j1 v4 μ v6 = some o1 := hf
      unfold f_X5_standInRow_L45 at hf
      have hW : Wd D (faB oa aa sh) (feB tc oa aa sh ln) A s.heap μ H locs := hW
      have hl : lv_has ls 9 [(0, .ref (oa (5, 0))), (1, .ref (oa (13, j1))), (4, .int v4), (6, .int v6)] := hl
      refine lv_iload hx hb dX5_standInRow_45 (lv_at hl 3 rfl) ?_
      refine lv_if_lt (tgt := 122) hx hb dX5_standInRow_47 (by decide) (fun c2 => ?_) (fun c2 => ?_)
      · have hf := (if_pos c2).symm.trans hf
        obtain ⟨x9004, hf, hx9004⟩ := map_of hf
        have e9004 := (Kr1 _ hx9004.symm).symm
        subst e9004
        refine lv_iload hx hb dX5_standInRow_122 (lv_at hl 2 rfl) ?_
        refine lv_iconst (v := -1) hx hb dX5_standInRow_124 (by decide) ?_
        refine lv_icmp_ne (tgt := 139) hx hb dX5_standInRow_125 (by decide) (fun c3 => ?_) (fun c3 => ?_)
        · have hf := (if_neg c3).symm.trans hf
          refine lv_aload_n hx hb dX5_standInRow_139 rfl (lv_at hl 0 rfl) ?_
          refine lv_aload_n hx hb dX5_standInRow_140 rfl (lv_at hl 1 rfl) ?_
          refine lv_iload hx hb dX5_standInRow_141 (lv_at hl 2 rfl) ?_
          obtain ⟨x143, h143, hf⟩ := bd_of hf
          refine r_callV (k := ((5, 0) : Ky)) C hW hl lk_X5_149 (c_X5_placeInRow hwf hj1 h143) ⟨rfl, rfl⟩ ⟨Nat.le_of_ble_eq_true rfl, Nat.le_of_ble_eq_true rfl⟩ rfl rfl rfl (As := [.ref (oa (13, j1)), .int v4]) (rest := []) rfl rfl (Nat.le_of_ble_eq_true rfl) dX5_standInRow_143 ⟨Nat.zero_le _, Nat.zero_le _⟩ (fun H locs hW => ?_)
          show W p l e (rmq 4 94) s m args below meth c H locs 0 0 Q (F0 m 146 ls [.int x143])
          obtain rfl := Option.some.inj hf
          rw [hQ]
          exact r_iret C hr hk hW rfl rfl dX5_standInRow_146
        · have hf := (if_pos c3).symm.trans hf
          refine lv_aload_n hx hb dX5_standInRow_128 rfl (lv_at hl 0 rfl) ?_
          refine gf_X5_22 C hW dX5_standInRow_129 ?_
          refine lv_iconst (v := 0) hx hb dX5_standInRow_132 (by decide) ?_
          obtain ⟨x133, h133, hf⟩ := bd_of hf
          refine r_callV (k := ((11, 11) : Ky)) C hW hl lk_X5_83 (c_X1_at hwf rfl h133) ⟨rfl, rfl⟩ ⟨Nat.le_of_ble_eq_true rfl, Nat.le_of_ble_eq_true rfl⟩ rfl (faB_11 rfl) rfl (As := [.int (0 : Int32)]) (rest := []) rfl rfl (Nat.le_of_ble_eq_true rfl) dX5_standInRow_133 ⟨Nat.zero_le _, Nat.zero_le _⟩ (fun H locs hW => ?_)
          show W p l e (rmq 4 94) s m args below meth c H locs 0 0 Q (F0 m 136 ls [.int x133])
          refine lv_goto (tgt := 146) hx hb dX5_standInRow_136 (by decide) ?_
          obtain rfl := Option.some.inj hf
          rw [hQ]
          exact r_iret C hr hk hW rfl rfl dX5_standInRow_146
      · have hf := (if_neg c2).symm.trans hf
        refine lv_iconst (v := 0) hx hb dX5_standInRow_50 (by decide) ?_
        refine lv_istore (lv' := [(7, .int (0 : Int32)), (0, .ref (oa (5, 0))), (1, .ref (oa (13, j1))), (4, .int v4), (6, .int v6)]) hx hb dX5_standInRow_51 hl (by decide) rfl (fun ls hl => ?_)
        refine lv_iconst (v := 0) hx hb dX5_standInRow_53 (by decide) ?_
        refine lv_istore (lv' := [(8, .int (0 : Int32)), (7, .int (0 : Int32)), (0, .ref (oa (5, 0))), (1, .ref (oa (13, j1))), (4, .int v4), (6, .int v6)]) hx hb dX5_standInRow_54 hl (by decide) rfl (fun ls hl => ?_)
        have L56 : ∀ (μ : Mm) (v6 v7 v8 : Int32) (H : Heap) (locs : List Loc) (ls : Array Slot), Wh (fun z : Int32 × Int32 => f_X5_standInRow_L56 sh ln j1 v4 v6 μ z.1 z.2) (v7, v8) = some o1 → Wd D (faB oa aa sh) (feB tc oa aa sh ln) A s.heap μ H locs → lv_has ls 9 [(0, .ref (oa (5, 0))), (1, .ref (oa (13, j1))), (4, .int v4), (6, .int v6), (7, .int v7), (8, .int v8)] → W p l e (rmq 4 94) s m args below meth c H locs 0 0 Q (F0 m 56 ls []) := by
          intro μ v6 v7 v8 H locs ls hf hW hl
          refine Wh_rule hf (fun z : Int32 × Int32 => ∀ (H : Heap) (locs : List Loc) (ls : Array Slot), Wd D (faB oa aa sh) (feB tc oa aa sh ln) A s.heap μ H locs → lv_has ls 9 [(0, .ref (oa (5, 0))), (1, .ref (oa (13, j1))), (4, .int v4), (6, .int v6), (7, .int z.1), (8, .int z.2)] → W p l e (rmq 4 94) s m args below meth c H locs 0 0 Q (F0 m 56 ls [])) (fun z o2 hf Kl2 Kr2 => ?_) _ _ _ hW hl
          obtain ⟨v7, v8⟩ := z
          intro H locs ls hW hl
          have hf : f_X5_standInRow_L56 sh ln j1 v4 v6 μ v7 v8 = some o2 := hf
          unfold f_X5_standInRow_L56 at hf
          have hW : Wd D (faB oa aa sh) (feB tc oa aa sh ln) A s.heap μ H locs := hW
          have hl : lv_has ls 9 [(0, .ref (oa (5, 0))), (1, .ref (oa (13, j1))), (4, .int v4), (6, .int v6), (7, .int v7), (8, .int v8)] := hl
          refine lv_iload hx hb dX5_standInRow_56 (lv_at hl 5 rfl) ?_
          refine lv_aload_n hx hb dX5_standInRow_58 rfl (lv_at hl 1 rfl) ?_
          refine gf_X5_42 C hW hj1 dX5_standInRow_59 ?_
          refine lv_icmp_ge (tgt := 105) hx hb dX5_standInRow_62 (by decide) (fun c5 => ?_) (fun c5 => ?_)
          · have hf := (if_pos c5).symm.trans hf
            obtain ⟨x9006, hf, hx9006⟩ := map_of hf
            have e9006 := (Kr2 _ hx9006.symm).symm
            subst e9006
            refine lv_aload_n hx hb dX5_standInRow_105 rfl (lv_at hl 0 rfl) ?_
            refine gf_X5_22 C hW dX5_standInRow_106 ?_
            refine lv_iload hx hb dX5_standInRow_109 (lv_at hl 3 rfl) ?_
            refine lv_iload hx hb dX5_standInRow_111 (lv_at hl 4 rfl) ?_
            obtain ⟨x113, h113, hf⟩ := bd_of hf
            refine r_callV (k := ((11, 11) : Ky)) C hW hl lk_X5_79 (c_X1_put hwf rfl h113) ⟨rfl, rfl⟩ ⟨Nat.le_of_ble_eq_true rfl, Nat.le_of_ble_eq_true rfl⟩ rfl (faB_11 rfl) rfl (As := [.int v6, .int v7]) (rest := []) rfl rfl (Nat.le_of_ble_eq_true rfl) dX5_standInRow_113 ⟨Nat.zero_le _, Nat.zero_le _⟩ (fun H locs hW => ?_)
            show W p l e (rmq 4 94) s m args below meth c H locs 0 0 Q (F0 m 116 ls [])
            refine lv_iinc (v := (v6 + (-1 : Int32))) (lv' := [(6, .int (v6 + (-1 : Int32))), (0, .ref (oa (5, 0))), (1, .ref (oa (13, j1))), (4, .int v4), (7, .int v7), (8, .int v8)]) hx hb dX5_standInRow_116 hl (k := 3) rfl rfl (by decide) rfl (fun ls hl => ?_)
            refine lv_goto (tgt := 45) hx hb dX5_standInRow_119 (by decide) ?_
            obtain rfl := Option.some.inj hf
            exact Kl1 _ rfl _ _ _ hW (lv_sub hl [1, 2, 3, 0] rfl)
          · have hf := (if_neg c5).symm.trans hf
            refine lv_iload hx hb dX5_standInRow_65 (lv_at hl 4 rfl) ?_
            refine lv_aload_n hx hb dX5_standInRow_67 rfl (lv_at hl 0 rfl) ?_
            refine lv_iload hx hb dX5_standInRow_68 (lv_at hl 3 rfl) ?_
            refine lv_iload hx hb dX5_standInRow_70 (lv_at hl 5 rfl) ?_
            obtain ⟨x72, h72, hf⟩ := bd_of hf
            refine r_callV (k := ((5, 0) : Ky)) C hW hl lk_X5_145 (c_X5_mayFollow hwf h72) ⟨rfl, rfl⟩ ⟨Nat.le_of_ble_eq_true rfl, Nat.le_of_ble_eq_true rfl⟩ rfl rfl rfl (As := [.int v6, .int v8]) (rest := [.int v7]) rfl rfl (Nat.le_of_ble_eq_true rfl) dX5_standInRow_72 ⟨Nat.zero_le _, Nat.zero_le _⟩ (fun H locs hW => ?_)
            show W p l e (rmq 4 94) s m args below meth c H locs 0 0 Q (F0 m 75 ls [.int x72, .int v7])
            refine lv_if_eq (tgt := 95) hx hb dX5_standInRow_75 (by decide) (fun c7 => ?_) (fun c7 => ?_)
            · have hf := (if_pos c7).symm.trans hf
              refine lv_iconst (v := 0) hx hb dX5_standInRow_95 (by decide) ?_
              refine lv_iadd hx hb dX5_standInRow_96 ?_
              refine lv_istore (lv' := [(7, .int (v7 + (0 : Int32))), (0, .ref (oa (5, 0))), (1, .ref (oa (13, j1))), (4, .int v4), (6, .int v6), (8, .int v8)]) hx hb dX5_standInRow_97 hl (by decide) rfl (fun ls hl => ?_)
              refine lv_iinc (v := (v8 + (1 : Int32))) (lv' := [(8, .int (v8 + (1 : Int32))), (7, .int (v7 + (0 : Int32))), (0, .ref (oa (5, 0))), (1, .ref (oa (13, j1))), (4, .int v4), (6, .int v6)]) hx hb dX5_standInRow_99 hl (k := 5) rfl rfl (by decide) rfl (fun ls hl => ?_)
              refine lv_goto (tgt := 56) hx hb dX5_standInRow_102 (by decide) ?_
              obtain rfl := Option.some.inj hf
              exact Kl2 _ rfl _ _ _ hW (lv_sub hl [2, 3, 4, 5, 1, 0] rfl)
            · have hf := (if_neg c7).symm.trans hf
              refine lv_aload_n hx hb dX5_standInRow_78 rfl (lv_at hl 0 rfl) ?_
              refine gf_X5_22 C hW dX5_standInRow_79 ?_
              refine lv_iload hx hb dX5_standInRow_82 (lv_at hl 3 rfl) ?_
              refine lv_iconst (v := 1) hx hb dX5_standInRow_84 (by decide) ?_
              refine lv_iload hx hb dX5_standInRow_85 (lv_at hl 5 rfl) ?_
              refine lv_ishl hx hb dX5_standInRow_87 ?_
              refine lv_ior hx hb dX5_standInRow_88 ?_
              obtain ⟨x89, h89, hf⟩ := bd_of hf
              refine r_callV (k := ((11, 11) : Ky)) C hW hl lk_X5_83 (c_X1_at hwf rfl h89) ⟨rfl, rfl⟩ ⟨Nat.le_of_ble_eq_true rfl, Nat.le_of_ble_eq_true rfl⟩ rfl (faB_11 rfl) rfl (As := [.int (v6 ||| ((1 : Int32) <<< (v8 &&& 31)))]) (rest := [.int v7]) rfl rfl (Nat.le_of_ble_eq_true rfl) dX5_standInRow_89 ⟨Nat.zero_le _, Nat.zero_le _⟩ (fun H locs hW => ?_)
              show W p l e (rmq 4 94) s m args below meth c H locs 0 0 Q (F0 m 92 ls [.int x89, .int v7])
              refine lv_goto (tgt := 96) hx hb dX5_standInRow_92 (by decide) ?_
              refine lv_iadd hx hb dX5_standInRow_96 ?_
              refine lv_istore (lv' := [(7, .int (v7 + x89)), (0, .ref (oa (5, 0))), (1, .ref (oa (13, j1))), (4, .int v4), (6, .int v6), (8, .int v8)]) hx hb dX5_standInRow_97 hl (by decide) rfl (fun ls hl => ?_)
              refine lv_iinc (v := (v8 + (1 : Int32))) (lv' := [(8, .int (v8 + (1 : Int32))), (7, .int (v7 + x89)), (0, .ref (oa (5, 0))), (1, .ref (oa (13, j1))), (4, .int v4), (6, .int v6)]) hx hb dX5_standInRow_99 hl (k := 5) rfl rfl (by decide) rfl (fun ls hl => ?_)
              refine lv_goto (tgt := 56) hx hb dX5_standInRow_102 (by decide) ?_
              obtain rfl := Option.some.inj hf
              exact Kl2 _ rfl _ _ _ hW (lv_sub hl [2, 3, 4, 5, 1, 0] rfl)
        exact L56 μ v6 (0 : Int32) (0 : Int32) _ _ _ hf hW (lv_sub hl [2, 3, 4, 5, 1, 0] rfl)
    exact L45 x36 ((((1 : Int32) <<< ((x16 (13, j1) 1) &&& 31)) - (1 : Int32)) - (1 : Int32)) _ _ _ hf hW (lv_sub hl [2, 3, 6, 0] rfl)
  · have hf := (if_neg c1).symm.trans hf
    refine lv_bipush (v := -3) hx hb dX5_standInRow_9 (by decide) ?_
    obtain rfl := Option.some.inj hf
    rw [hQ]
    exact r_iret C hr hk hW rfl rfl dX5_standInRow_11
set_option maxHeartbeats 4000000 in
set_option maxRecDepth 100000 in
theorem c_X5_tellsSayings {l : Launch} {D : va_G} {tc : Nat → ClassId} {ro : Ro} {oa : Ky → Nat} {aa : Nat → Nat} {sh : Sh} {ln : Nat → Nat} {j1 : Nat} {μ : Mm} {v3 : Int32} {res : Int32} (hwf : WfS sh) (hj1 : sh 2 j1 = 1) (hf : f_X5_tellsSayings sh ln j1 μ v3 = some res) : Ct l D tc ro (faB oa aa sh) (feB tc oa aa sh ln) yX5_tellsSayings cX5_tellsSayings 5 (some .boolean) (rmq 3 64) [.ref (oa (5, 0)), .ref (oa (13, j1)), .ref (oa (2, 0)), .int v3] μ (some (.int res)) μ := by
  refine Ct.of (by decide) (Nat.le_of_ble_eq_true rfl) (fun p e s m args below meth c A C hr hk hW ls hl => ?_)
  have hx := C.1.1
  have hb := C.1.2.1
  obtain ⟨Q, hQ⟩ : ∃ Q, Q = MQ below (Ctq D (faB oa aa sh) (feB tc oa aa sh ln) (some (.int res)) μ A) args s 0 0 A := ⟨_, rfl⟩
  rw [← hQ]
  have hl : lv_has ls 5 [(0, .ref (oa (5, 0))), (1, .ref (oa (13, j1))), (2, .ref (oa (2, 0))), (3, .int v3)] := hl
  unfold f_X5_tellsSayings at hf
  refine lv_iconst (v := 0) hx hb dX5_tellsSayings_0 (by decide) ?_
  refine lv_istore (lv' := [(4, .int (0 : Int32)), (0, .ref (oa (5, 0))), (1, .ref (oa (13, j1))), (2, .ref (oa (2, 0))), (3, .int v3)]) hx hb dX5_tellsSayings_1 hl (by decide) rfl (fun ls hl => ?_)
  have L3 : ∀ (v4 : Int32) (H : Heap) (locs : List Loc) (ls : Array Slot), Wh (fun z : Int32 => f_X5_tellsSayings_L3 sh ln j1 v3 μ z) (v4) = some res → Wd D (faB oa aa sh) (feB tc oa aa sh ln) A s.heap μ H locs → lv_has ls 5 [(0, .ref (oa (5, 0))), (1, .ref (oa (13, j1))), (2, .ref (oa (2, 0))), (3, .int v3), (4, .int v4)] → W p l e (rmq 3 64) s m args below meth c H locs 0 0 Q (F0 m 3 ls []) := by
    intro v4 H locs ls hf hW hl
    refine Wh_rule hf (fun z : Int32 => ∀ (H : Heap) (locs : List Loc) (ls : Array Slot), Wd D (faB oa aa sh) (feB tc oa aa sh ln) A s.heap μ H locs → lv_has ls 5 [(0, .ref (oa (5, 0))), (1, .ref (oa (13, j1))), (2, .ref (oa (2, 0))), (3, .int v3), (4, .int z)] → W p l e (rmq 3 64) s m args below meth c H locs 0 0 Q (F0 m 3 ls [])) (fun z o1 hf Kl1 Kr1 => ?_) _ _ _ hW hl
    obtain ⟨v4, ez⟩ : ∃ q, q = z := ⟨_, rfl⟩
    subst ez
    intro H locs ls hW hl
    have hf : f_X5_tellsSayings_L3 sh ln j1 v3 μ v4 = some o1 := hf
    unfold f_X5_tellsSayings_L3 at hf
    have hW : Wd D (faB oa aa sh) (feB tc oa aa sh ln) A s.heap μ H locs := hW
    have hl : lv_has ls 5 [(0, .ref (oa (5, 0))), (1, .ref (oa (13, j1))), (2, .ref (oa (2, 0))), (3, .int v3), (4, .int v4)] := hl
    refine lv_iload hx hb dX5_tellsSayings_3 (lv_at hl 4 rfl) ?_
    refine lv_iconst (v := 2) hx hb dX5_tellsSayings_5 (by decide) ?_
    refine lv_iadd hx hb dX5_tellsSayings_6 ?_
    refine lv_iload_n hx hb dX5_tellsSayings_7 rfl (lv_at hl 3 rfl) ?_
    refine lv_icmp_ge (tgt := 64) hx hb dX5_tellsSayings_8 (by decide) (fun c1 => ?_) (fun c1 => ?_)
    · have hf := (if_pos c1).symm.trans hf
      obtain ⟨x9004, hf, hx9004⟩ := map_of hf
      have e9004 := (Kr1 _ hx9004.symm).symm
      subst e9004
      refine lv_iload_n hx hb dX5_tellsSayings_64 rfl (lv_at hl 3 rfl) ?_
      refine lv_iconst (v := 3) hx hb dX5_tellsSayings_65 (by decide) ?_
      refine lv_irem hx hb dX5_tellsSayings_66 (by decide) ?_
      refine lv_if_ne (tgt := 74) hx hb dX5_tellsSayings_67 (by decide) (fun c3 => ?_) (fun c3 => ?_)
      · have hf := (if_neg c3).symm.trans hf
        refine lv_iconst (v := 0) hx hb dX5_tellsSayings_74 (by decide) ?_
        obtain rfl := Option.some.inj hf
        rw [hQ]
        exact r_zret C hr hk hW (Or.inl rfl) rfl rfl dX5_tellsSayings_75
      · have hf := (if_pos c3).symm.trans hf
        refine lv_iconst (v := 1) hx hb dX5_tellsSayings_70 (by decide) ?_
        refine lv_goto (tgt := 75) hx hb dX5_tellsSayings_71 (by decide) ?_
        obtain rfl := Option.some.inj hf
        rw [hQ]
        exact r_zret C hr hk hW (Or.inr rfl) rfl rfl dX5_tellsSayings_75
    · have hf := (if_neg c1).symm.trans hf
      refine lv_aload_n hx hb dX5_tellsSayings_11 rfl (lv_at hl 1 rfl) ?_
      refine lv_aload_n hx hb dX5_tellsSayings_12 rfl (lv_at hl 0 rfl) ?_
      refine lv_aload_n hx hb dX5_tellsSayings_13 rfl (lv_at hl 2 rfl) ?_
      refine lv_iload hx hb dX5_tellsSayings_14 (lv_at hl 4 rfl) ?_
      obtain ⟨x16, h16, hf⟩ := bd_of hf
      refine r_callV (k := ((5, 0) : Ky)) C hW hl lk_X5_129 (c_X5_personAt hwf h16) ⟨rfl, rfl⟩ ⟨Nat.le_of_ble_eq_true rfl, Nat.le_of_ble_eq_true rfl⟩ rfl rfl rfl (As := [.ref (oa (2, 0)), .int v4]) (rest := [.ref (oa (13, j1))]) rfl rfl (Nat.le_of_ble_eq_true rfl) dX5_tellsSayings_16 ⟨Nat.zero_le _, Nat.zero_le _⟩ (fun H locs hW => ?_)
      show W p l e (rmq 3 64) s m args below meth c H locs 0 0 Q (F0 m 19 ls [.int x16, .ref (oa (13, j1))])
      obtain ⟨x19, h19, hf⟩ := bd_of hf
      refine r_callV (k := ((13, j1) : Ky)) C hW hl lk_X5_133 (c_X6_hasPerson hwf hj1 h19) ⟨rfl, rfl⟩ ⟨Nat.le_of_ble_eq_true rfl, Nat.le_of_ble_eq_true rfl⟩ rfl (faB_13 hj1) rfl (As := [.int x16]) (rest := []) rfl rfl (Nat.le_of_ble_eq_true rfl) dX5_tellsSayings_19 ⟨Nat.zero_le _, Nat.zero_le _⟩ (fun H locs hW => ?_)
      show W p l e (rmq 3 64) s m args below meth c H locs 0 0 Q (F0 m 22 ls [.int x19])
      refine lv_if_eq (tgt := 56) hx hb dX5_tellsSayings_22 (by decide) (fun c5 => ?_) (fun c5 => ?_)
      · have hf := (if_pos c5).symm.trans hf
        obtain ⟨x9006, hf, hx9006⟩ := map_of hf
        have e9006 := (Kr1 _ hx9006.symm).symm
        subst e9006
        refine lv_iconst (v := 0) hx hb dX5_tellsSayings_56 (by decide) ?_
        obtain rfl := Option.some.inj hf
        rw [hQ]
        exact r_zret C hr hk hW (Or.inl rfl) rfl rfl dX5_tellsSayings_57
      · have hf := (if_neg c5).symm.trans hf
        refine lv_aload_n hx hb dX5_tellsSayings_25 rfl (lv_at hl 1 rfl) ?_
        refine lv_aload_n hx hb dX5_tellsSayings_26 rfl (lv_at hl 0 rfl) ?_
        refine lv_aload_n hx hb dX5_tellsSayings_27 rfl (lv_at hl 2 rfl) ?_
        refine lv_iload hx hb dX5_tellsSayings_28 (lv_at hl 4 rfl) ?_
        refine lv_iconst (v := 1) hx hb dX5_tellsSayings_30 (by decide) ?_
        refine lv_iadd hx hb dX5_tellsSayings_31 ?_
        obtain ⟨x32, h32, hf⟩ := bd_of hf
        refine r_callV (k := ((5, 0) : Ky)) C hW hl lk_X5_129 (c_X5_personAt hwf h32) ⟨rfl, rfl⟩ ⟨Nat.le_of_ble_eq_true rfl, Nat.le_of_ble_eq_true rfl⟩ rfl rfl rfl (As := [.ref (oa (2, 0)), .int (v4 + (1 : Int32))]) (rest := [.ref (oa (13, j1))]) rfl rfl (Nat.le_of_ble_eq_true rfl) dX5_tellsSayings_32 ⟨Nat.zero_le _, Nat.zero_le _⟩ (fun H locs hW => ?_)
        show W p l e (rmq 3 64) s m args below meth c H locs 0 0 Q (F0 m 35 ls [.int x32, .ref (oa (13, j1))])
        obtain ⟨x35, h35, hf⟩ := bd_of hf
        refine r_callV (k := ((13, j1) : Ky)) C hW hl lk_X5_133 (c_X6_hasPerson hwf hj1 h35) ⟨rfl, rfl⟩ ⟨Nat.le_of_ble_eq_true rfl, Nat.le_of_ble_eq_true rfl⟩ rfl (faB_13 hj1) rfl (As := [.int x32]) (rest := []) rfl rfl (Nat.le_of_ble_eq_true rfl) dX5_tellsSayings_35 ⟨Nat.zero_le _, Nat.zero_le _⟩ (fun H locs hW => ?_)
        show W p l e (rmq 3 64) s m args below meth c H locs 0 0 Q (F0 m 38 ls [.int x35])
        refine lv_if_eq (tgt := 56) hx hb dX5_tellsSayings_38 (by decide) (fun c7 => ?_) (fun c7 => ?_)
        · have hf := (if_pos c7).symm.trans hf
          obtain ⟨x9008, hf, hx9008⟩ := map_of hf
          have e9008 := (Kr1 _ hx9008.symm).symm
          subst e9008
          refine lv_iconst (v := 0) hx hb dX5_tellsSayings_56 (by decide) ?_
          obtain rfl := Option.some.inj hf
          rw [hQ]
          exact r_zret C hr hk hW (Or.inl rfl) rfl rfl dX5_tellsSayings_57
        · have hf := (if_neg c7).symm.trans hf
          refine lv_aload_n hx hb dX5_tellsSayings_41 rfl (lv_at hl 1 rfl) ?_
          refine lv_aload_n hx hb dX5_tellsSayings_42 rfl (lv_at hl 2 rfl) ?_
          refine lv_iload hx hb dX5_tellsSayings_43 (lv_at hl 4 rfl) ?_
          refine lv_iconst (v := 2) hx hb dX5_tellsSayings_45 (by decide) ?_
          refine lv_iadd hx hb dX5_tellsSayings_46 ?_
          obtain ⟨x47, h47, hf⟩ := bd_of hf
          refine r_callV (k := ((2, 0) : Ky)) C hW hl lk_X5_136 (c_X7_byteAt hwf h47) ⟨rfl, rfl⟩ ⟨Nat.le_of_ble_eq_true rfl, Nat.le_of_ble_eq_true rfl⟩ rfl rfl rfl (As := [.int (v4 + (2 : Int32))]) (rest := [.ref (oa (13, j1))]) rfl rfl (Nat.le_of_ble_eq_true rfl) dX5_tellsSayings_47 ⟨Nat.zero_le _, Nat.zero_le _⟩ (fun H locs hW => ?_)
          show W p l e (rmq 3 64) s m args below meth c H locs 0 0 Q (F0 m 50 ls [.int x47, .ref (oa (13, j1))])
          obtain ⟨x50, h50, hf⟩ := bd_of hf
          refine r_callV (k := ((13, j1) : Ky)) C hW hl lk_X5_158 (c_X6_hasNotice hwf hj1 h50) ⟨rfl, rfl⟩ ⟨Nat.le_of_ble_eq_true rfl, Nat.le_of_ble_eq_true rfl⟩ rfl (faB_13 hj1) rfl (As := [.int x47]) (rest := []) rfl rfl (Nat.le_of_ble_eq_true rfl) dX5_tellsSayings_50 ⟨Nat.zero_le _, Nat.zero_le _⟩ (fun H locs hW => ?_)
          show W p l e (rmq 3 64) s m args below meth c H locs 0 0 Q (F0 m 53 ls [.int x50])
          refine lv_if_ne (tgt := 58) hx hb dX5_tellsSayings_53 (by decide) (fun c9 => ?_) (fun c9 => ?_)
          · have hf := (if_neg c9).symm.trans hf
            refine lv_iinc (v := (v4 + (3 : Int32))) (lv' := [(4, .int (v4 + (3 : Int32))), (0, .ref (oa (5, 0))), (1, .ref (oa (13, j1))), (2, .ref (oa (2, 0))), (3, .int v3)]) hx hb dX5_tellsSayings_58 hl (k := 4) rfl rfl (by decide) rfl (fun ls hl => ?_)
            refine lv_goto (tgt := 3) hx hb dX5_tellsSayings_61 (by decide) ?_
            obtain rfl := Option.some.inj hf
            exact Kl1 _ rfl _ _ _ hW (lv_sub hl [1, 2, 3, 4, 0] rfl)
          · have hf := (if_pos c9).symm.trans hf
            obtain ⟨x9010, hf, hx9010⟩ := map_of hf
            have e9010 := (Kr1 _ hx9010.symm).symm
            subst e9010
            refine lv_iconst (v := 0) hx hb dX5_tellsSayings_56 (by decide) ?_
            obtain rfl := Option.some.inj hf
            rw [hQ]
            exact r_zret C hr hk hW (Or.inl rfl) rfl rfl dX5_tellsSayings_57
  exact L3 (0 : Int32) _ _ _ hf hW (lv_sub hl [1, 2, 3, 4, 0] rfl)
set_option maxHeartbeats 4000000 in
set_option maxRecDepth 100000 in
theorem c_X5_liarsIn {l : Launch} {D : va_G} {tc : Nat → ClassId} {ro : Ro} {oa : Ky → Nat} {aa : Nat → Nat} {sh : Sh} {ln : Nat → Nat} {j1 : Nat} {μ : Mm} {v3 v4 : Int32} {res : Int32} (hwf : WfS sh) (hj1 : sh 2 j1 = 1) (hf : f_X5_liarsIn sh ln j1 μ v3 v4 = some res) : Ct l D tc ro (faB oa aa sh) (feB tc oa aa sh ln) yX5_liarsIn cX5_liarsIn 7 (some .int) (rmq 3 64) [.ref (oa (5, 0)), .ref (oa (13, j1)), .ref (oa (2, 0)), .int v3, .int v4] μ (some (.int res)) μ := by
  refine Ct.of (by decide) (Nat.le_of_ble_eq_true rfl) (fun p e s m args below meth c A C hr hk hW ls hl => ?_)
  have hx := C.1.1
  have hb := C.1.2.1
  obtain ⟨Q, hQ⟩ : ∃ Q, Q = MQ below (Ctq D (faB oa aa sh) (feB tc oa aa sh ln) (some (.int res)) μ A) args s 0 0 A := ⟨_, rfl⟩
  rw [← hQ]
  have hl : lv_has ls 7 [(0, .ref (oa (5, 0))), (1, .ref (oa (13, j1))), (2, .ref (oa (2, 0))), (3, .int v3), (4, .int v4)] := hl
  unfold f_X5_liarsIn at hf
  refine lv_iconst (v := 0) hx hb dX5_liarsIn_0 (by decide) ?_
  refine lv_istore (lv' := [(5, .int (0 : Int32)), (0, .ref (oa (5, 0))), (1, .ref (oa (13, j1))), (2, .ref (oa (2, 0))), (3, .int v3), (4, .int v4)]) hx hb dX5_liarsIn_1 hl (by decide) rfl (fun ls hl => ?_)
  refine lv_iconst (v := 0) hx hb dX5_liarsIn_3 (by decide) ?_
  refine lv_istore (lv' := [(6, .int (0 : Int32)), (5, .int (0 : Int32)), (0, .ref (oa (5, 0))), (1, .ref (oa (13, j1))), (2, .ref (oa (2, 0))), (3, .int v3), (4, .int v4)]) hx hb dX5_liarsIn_4 hl (by decide) rfl (fun ls hl => ?_)
  have L6 : ∀ (v5 v6 : Int32) (H : Heap) (locs : List Loc) (ls : Array Slot), Wh (fun z : Int32 × Int32 => f_X5_liarsIn_L6 sh ln j1 v3 v4 μ z.1 z.2) (v5, v6) = some res → Wd D (faB oa aa sh) (feB tc oa aa sh ln) A s.heap μ H locs → lv_has ls 7 [(0, .ref (oa (5, 0))), (1, .ref (oa (13, j1))), (2, .ref (oa (2, 0))), (3, .int v3), (4, .int v4), (5, .int v5), (6, .int v6)] → W p l e (rmq 3 64) s m args below meth c H locs 0 0 Q (F0 m 6 ls []) := by
    intro v5 v6 H locs ls hf hW hl
    refine Wh_rule hf (fun z : Int32 × Int32 => ∀ (H : Heap) (locs : List Loc) (ls : Array Slot), Wd D (faB oa aa sh) (feB tc oa aa sh ln) A s.heap μ H locs → lv_has ls 7 [(0, .ref (oa (5, 0))), (1, .ref (oa (13, j1))), (2, .ref (oa (2, 0))), (3, .int v3), (4, .int v4), (5, .int z.1), (6, .int z.2)] → W p l e (rmq 3 64) s m args below meth c H locs 0 0 Q (F0 m 6 ls [])) (fun z o1 hf Kl1 Kr1 => ?_) _ _ _ hW hl
    obtain ⟨v5, v6⟩ := z
    intro H locs ls hW hl
    have hf : f_X5_liarsIn_L6 sh ln j1 v3 v4 μ v5 v6 = some o1 := hf
    unfold f_X5_liarsIn_L6 at hf
    have hW : Wd D (faB oa aa sh) (feB tc oa aa sh ln) A s.heap μ H locs := hW
    have hl : lv_has ls 7 [(0, .ref (oa (5, 0))), (1, .ref (oa (13, j1))), (2, .ref (oa (2, 0))), (3, .int v3), (4, .int v4), (5, .int v5), (6, .int v6)] := hl
    refine lv_iload hx hb dX5_liarsIn_6 (lv_at hl 6 rfl) ?_
    refine lv_iconst (v := 2) hx hb dX5_liarsIn_8 (by decide) ?_
    refine lv_iadd hx hb dX5_liarsIn_9 ?_
    refine lv_iload_n hx hb dX5_liarsIn_10 rfl (lv_at hl 3 rfl) ?_
    refine lv_icmp_ge (tgt := 60) hx hb dX5_liarsIn_11 (by decide) (fun c1 => ?_) (fun c1 => ?_)
    · have hf := (if_pos c1).symm.trans hf
      obtain ⟨x9002, hf, hx9002⟩ := map_of hf
      have e9002 := (Kr1 _ hx9002.symm).symm
      subst e9002
      refine lv_iload hx hb dX5_liarsIn_60 (lv_at hl 5 rfl) ?_
      obtain rfl := Option.some.inj hf
      rw [hQ]
      exact r_iret C hr hk hW rfl rfl dX5_liarsIn_62
    · have hf := (if_neg c1).symm.trans hf
      refine lv_aload_n hx hb dX5_liarsIn_14 rfl (lv_at hl 1 rfl) ?_
      refine lv_iload hx hb dX5_liarsIn_15 (lv_at hl 4 rfl) ?_
      refine lv_aload_n hx hb dX5_liarsIn_17 rfl (lv_at hl 0 rfl) ?_
      refine lv_aload_n hx hb dX5_liarsIn_18 rfl (lv_at hl 2 rfl) ?_
      refine lv_iload hx hb dX5_liarsIn_19 (lv_at hl 6 rfl) ?_
      refine lv_iconst (v := 1) hx hb dX5_liarsIn_21 (by decide) ?_
      refine lv_iadd hx hb dX5_liarsIn_22 ?_
      obtain ⟨x23, h23, hf⟩ := bd_of hf
      refine r_callV (k := ((5, 0) : Ky)) C hW hl lk_X5_129 (c_X5_personAt hwf h23) ⟨rfl, rfl⟩ ⟨Nat.le_of_ble_eq_true rfl, Nat.le_of_ble_eq_true rfl⟩ rfl rfl rfl (As := [.ref (oa (2, 0)), .int (v6 + (1 : Int32))]) (rest := [.int v4, .ref (oa (13, j1))]) rfl rfl (Nat.le_of_ble_eq_true rfl) dX5_liarsIn_23 ⟨Nat.zero_le _, Nat.zero_le _⟩ (fun H locs hW => ?_)
      show W p l e (rmq 3 64) s m args below meth c H locs 0 0 Q (F0 m 26 ls [.int x23, .int v4, .ref (oa (13, j1))])
      obtain ⟨x26, h26, hf⟩ := bd_of hf
      refine r_callV (k := ((13, j1) : Ky)) C hW hl lk_X5_72 (c_X6_figure hwf hj1 h26) ⟨rfl, rfl⟩ ⟨Nat.le_of_ble_eq_true rfl, Nat.le_of_ble_eq_true rfl⟩ rfl (faB_13 hj1) rfl (As := [.int v4, .int x23]) (rest := []) rfl rfl (Nat.le_of_ble_eq_true rfl) dX5_liarsIn_26 ⟨Nat.zero_le _, Nat.zero_le _⟩ (fun H locs hW => ?_)
      show W p l e (rmq 3 64) s m args below meth c H locs 0 0 Q (F0 m 29 ls [.int x26])
      refine lv_aload_n hx hb dX5_liarsIn_29 rfl (lv_at hl 2 rfl) ?_
      refine lv_iload hx hb dX5_liarsIn_30 (lv_at hl 6 rfl) ?_
      refine lv_iconst (v := 2) hx hb dX5_liarsIn_32 (by decide) ?_
      refine lv_iadd hx hb dX5_liarsIn_33 ?_
      obtain ⟨x34, h34, hf⟩ := bd_of hf
      refine r_callV (k := ((2, 0) : Ky)) C hW hl lk_X5_136 (c_X7_byteAt hwf h34) ⟨rfl, rfl⟩ ⟨Nat.le_of_ble_eq_true rfl, Nat.le_of_ble_eq_true rfl⟩ rfl rfl rfl (As := [.int (v6 + (2 : Int32))]) (rest := [.int x26]) rfl rfl (Nat.le_of_ble_eq_true rfl) dX5_liarsIn_34 ⟨Nat.zero_le _, Nat.zero_le _⟩ (fun H locs hW => ?_)
      show W p l e (rmq 3 64) s m args below meth c H locs 0 0 Q (F0 m 37 ls [.int x34, .int x26])
      refine lv_icmp_eq (tgt := 54) hx hb dX5_liarsIn_37 (by decide) (fun c3 => ?_) (fun c3 => ?_)
      · have hf := (if_pos c3).symm.trans hf
        refine lv_iinc (v := (v6 + (3 : Int32))) (lv' := [(6, .int (v6 + (3 : Int32))), (0, .ref (oa (5, 0))), (1, .ref (oa (13, j1))), (2, .ref (oa (2, 0))), (3, .int v3), (4, .int v4), (5, .int v5)]) hx hb dX5_liarsIn_54 hl (k := 6) rfl rfl (by decide) rfl (fun ls hl => ?_)
        refine lv_goto (tgt := 6) hx hb dX5_liarsIn_57 (by decide) ?_
        obtain rfl := Option.some.inj hf
        exact Kl1 _ rfl _ _ _ hW (lv_sub hl [1, 2, 3, 4, 5, 6, 0] rfl)
      · have hf := (if_neg c3).symm.trans hf
        refine lv_iload hx hb dX5_liarsIn_40 (lv_at hl 5 rfl) ?_
        refine lv_iconst (v := 1) hx hb dX5_liarsIn_42 (by decide) ?_
        refine lv_aload_n hx hb dX5_liarsIn_43 rfl (lv_at hl 0 rfl) ?_
        refine lv_aload_n hx hb dX5_liarsIn_44 rfl (lv_at hl 2 rfl) ?_
        refine lv_iload hx hb dX5_liarsIn_45 (lv_at hl 6 rfl) ?_
        obtain ⟨x47, h47, hf⟩ := bd_of hf
        refine r_callV (k := ((5, 0) : Ky)) C hW hl lk_X5_129 (c_X5_personAt hwf h47) ⟨rfl, rfl⟩ ⟨Nat.le_of_ble_eq_true rfl, Nat.le_of_ble_eq_true rfl⟩ rfl rfl rfl (As := [.ref (oa (2, 0)), .int v6]) (rest := [.int (1 : Int32), .int v5]) rfl rfl (Nat.le_of_ble_eq_true rfl) dX5_liarsIn_47 ⟨Nat.zero_le _, Nat.zero_le _⟩ (fun H locs hW => ?_)
        show W p l e (rmq 3 64) s m args below meth c H locs 0 0 Q (F0 m 50 ls [.int x47, .int (1 : Int32), .int v5])
        refine lv_ishl hx hb dX5_liarsIn_50 ?_
        refine lv_ior hx hb dX5_liarsIn_51 ?_
        refine lv_istore (lv' := [(5, .int (v5 ||| ((1 : Int32) <<< (x47 &&& 31)))), (0, .ref (oa (5, 0))), (1, .ref (oa (13, j1))), (2, .ref (oa (2, 0))), (3, .int v3), (4, .int v4), (6, .int v6)]) hx hb dX5_liarsIn_52 hl (by decide) rfl (fun ls hl => ?_)
        refine lv_iinc (v := (v6 + (3 : Int32))) (lv' := [(6, .int (v6 + (3 : Int32))), (5, .int (v5 ||| ((1 : Int32) <<< (x47 &&& 31)))), (0, .ref (oa (5, 0))), (1, .ref (oa (13, j1))), (2, .ref (oa (2, 0))), (3, .int v3), (4, .int v4)]) hx hb dX5_liarsIn_54 hl (k := 6) rfl rfl (by decide) rfl (fun ls hl => ?_)
        refine lv_goto (tgt := 6) hx hb dX5_liarsIn_57 (by decide) ?_
        obtain rfl := Option.some.inj hf
        exact Kl1 _ rfl _ _ _ hW (lv_sub hl [2, 3, 4, 5, 6, 1, 0] rfl)
  exact L6 (0 : Int32) (0 : Int32) _ _ _ hf hW (lv_sub hl [2, 3, 4, 5, 6, 1, 0] rfl)
set_option maxHeartbeats 4000000 in
set_option maxRecDepth 100000 in
theorem c_X5_whoLied {l : Launch} {D : va_G} {tc : Nat → ClassId} {ro : Ro} {oa : Ky → Nat} {aa : Nat → Nat} {sh : Sh} {ln : Nat → Nat} {j1 : Nat} {μ : Mm} {v3 v4 v5 : Int32} {res : Int32} (hwf : WfS sh) (hj1 : sh 2 j1 = 1) (hf : f_X5_whoLied sh ln j1 μ v3 v4 v5 = some res) : Ct l D tc ro (faB oa aa sh) (feB tc oa aa sh ln) yX5_whoLied cX5_whoLied 10 (some .int) (rmq 4 90) [.ref (oa (5, 0)), .ref (oa (13, j1)), .ref (oa (2, 0)), .int v3, .int v4, .int v5] μ (some (.int res)) μ := by
  refine Ct.of (by decide) (Nat.le_of_ble_eq_true rfl) (fun p e s m args below meth c A C hr hk hW ls hl => ?_)
  have hx := C.1.1
  have hb := C.1.2.1
  obtain ⟨Q, hQ⟩ : ∃ Q, Q = MQ below (Ctq D (faB oa aa sh) (feB tc oa aa sh ln) (some (.int res)) μ A) args s 0 0 A := ⟨_, rfl⟩
  rw [← hQ]
  have hl : lv_has ls 10 [(0, .ref (oa (5, 0))), (1, .ref (oa (13, j1))), (2, .ref (oa (2, 0))), (3, .int v3), (4, .int v4), (5, .int v5)] := hl
  unfold f_X5_whoLied at hf
  refine lv_iconst (v := 0) hx hb dX5_whoLied_0 (by decide) ?_
  refine lv_istore (lv' := [(6, .int (0 : Int32)), (0, .ref (oa (5, 0))), (1, .ref (oa (13, j1))), (2, .ref (oa (2, 0))), (3, .int v3), (4, .int v4), (5, .int v5)]) hx hb dX5_whoLied_1 hl (by decide) rfl (fun ls hl => ?_)
  refine lv_iconst (v := 0) hx hb dX5_whoLied_3 (by decide) ?_
  refine lv_istore (lv' := [(7, .int (0 : Int32)), (6, .int (0 : Int32)), (0, .ref (oa (5, 0))), (1, .ref (oa (13, j1))), (2, .ref (oa (2, 0))), (3, .int v3), (4, .int v4), (5, .int v5)]) hx hb dX5_whoLied_4 hl (by decide) rfl (fun ls hl => ?_)
  refine lv_iconst (v := 0) hx hb dX5_whoLied_6 (by decide) ?_
  refine lv_istore (lv' := [(8, .int (0 : Int32)), (7, .int (0 : Int32)), (6, .int (0 : Int32)), (0, .ref (oa (5, 0))), (1, .ref (oa (13, j1))), (2, .ref (oa (2, 0))), (3, .int v3), (4, .int v4), (5, .int v5)]) hx hb dX5_whoLied_7 hl (by decide) rfl (fun ls hl => ?_)
  have L9 : ∀ (v6 v7 v8 : Int32) (H : Heap) (locs : List Loc) (ls : Array Slot), Wh (fun z : Int32 × Int32 × Int32 => f_X5_whoLied_L9 sh ln j1 v3 v4 v5 μ z.1 z.2.1 z.2.2) (v6, v7, v8) = some res → Wd D (faB oa aa sh) (feB tc oa aa sh ln) A s.heap μ H locs → lv_has ls 10 [(0, .ref (oa (5, 0))), (1, .ref (oa (13, j1))), (2, .ref (oa (2, 0))), (3, .int v3), (4, .int v4), (5, .int v5), (6, .int v6), (7, .int v7), (8, .int v8)] → W p l e (rmq 4 90) s m args below meth c H locs 0 0 Q (F0 m 9 ls []) := by
    intro v6 v7 v8 H locs ls hf hW hl
    refine Wh_rule hf (fun z : Int32 × Int32 × Int32 => ∀ (H : Heap) (locs : List Loc) (ls : Array Slot), Wd D (faB oa aa sh) (feB tc oa aa sh ln) A s.heap μ H locs → lv_has ls 10 [(0, .ref (oa (5, 0))), (1, .ref (oa (13, j1))), (2, .ref (oa (2, 0))), (3, .int v3), (4, .int v4), (5, .int v5), (6, .int z.1), (7, .int z.2.1), (8, .int z.2.2)] → W p l e (rmq 4 90) s m args below meth c H locs 0 0 Q (F0 m 9 ls [])) (fun z o1 hf Kl1 Kr1 => ?_) _ _ _ hW hl
    obtain ⟨v6, v7, v8⟩ := z
    intro H locs ls hW hl
    have hf : f_X5_whoLied_L9 sh ln j1 v3 v4 v5 μ v6 v7 v8 = some o1 := hf
    unfold f_X5_whoLied_L9 at hf
    have hW : Wd D (faB oa aa sh) (feB tc oa aa sh ln) A s.heap μ H locs := hW
    have hl : lv_has ls 10 [(0, .ref (oa (5, 0))), (1, .ref (oa (13, j1))), (2, .ref (oa (2, 0))), (3, .int v3), (4, .int v4), (5, .int v5), (6, .int v6), (7, .int v7), (8, .int v8)] := hl
    have J40 : ∀ (v6 v7 v8 s0 : Int32) (H : Heap) (locs : List Loc) (ls : Array Slot), f_X5_whoLied_J40 sh ln j1 μ v3 v4 v5 v6 v7 v8 s0 = some o1 → Wd D (faB oa aa sh) (feB tc oa aa sh ln) A s.heap μ H locs → lv_has ls 10 [(0, .ref (oa (5, 0))), (1, .ref (oa (13, j1))), (2, .ref (oa (2, 0))), (3, .int v3), (4, .int v4), (5, .int v5), (6, .int v6), (7, .int v7), (8, .int v8)] → W p l e (rmq 4 90) s m args below meth c H locs 0 0 Q (F0 m 40 ls [.int s0]) := by
      intro v6 v7 v8 s0 H locs ls hf hW hl
      unfold f_X5_whoLied_J40 at hf
      refine lv_istore (lv' := [(9, .int s0), (0, .ref (oa (5, 0))), (1, .ref (oa (13, j1))), (2, .ref (oa (2, 0))), (3, .int v3), (4, .int v4), (5, .int v5), (6, .int v6), (7, .int v7), (8, .int v8)]) hx hb dX5_whoLied_40 hl (by decide) rfl (fun ls hl => ?_)
      refine lv_aload_n hx hb dX5_whoLied_42 rfl (lv_at hl 2 rfl) ?_
      refine lv_iload hx hb dX5_whoLied_43 (lv_at hl 9 rfl) ?_
      obtain ⟨x45, h45, hf⟩ := bd_of hf
      refine r_callV (k := ((13, j1) : Ky)) C hW hl lk_X5_69 (c_X6_stands hwf hj1 h45) ⟨rfl, rfl⟩ ⟨Nat.le_of_ble_eq_true rfl, Nat.le_of_ble_eq_true rfl⟩ rfl (faB_13 hj1) rfl (As := [.int v8]) (rest := []) rfl rfl (Nat.le_of_ble_eq_true rfl) dX5_whoLied_45 ⟨Nat.zero_le _, Nat.zero_le _⟩ (fun H locs hW => ?_)
      show W p l e (rmq 4 90) s m args below meth c H locs 0 0 Q (F0 m 48 ls [.int x45])
      refine lv_if_eq (tgt := 71) hx hb dX5_whoLied_48 (by decide) (fun c1 => ?_) (fun c1 => ?_)
      · have hf := (if_pos c1).symm.trans hf
        refine lv_iinc (v := (v8 + (1 : Int32))) (lv' := [(8, .int (v8 + (1 : Int32))), (9, .int s0), (0, .ref (oa (5, 0))), (1, .ref (oa (13, j1))), (2, .ref (oa (2, 0))), (3, .int v3), (4, .int v4), (5, .int v5), (6, .int v6), (7, .int v7)]) hx hb dX5_whoLied_71 hl (k := 9) rfl rfl (by decide) rfl (fun ls hl => ?_)
        refine lv_goto (tgt := 9) hx hb dX5_whoLied_74 (by decide) ?_
        obtain rfl := Option.some.inj hf
        exact Kl1 _ rfl _ _ _ hW (lv_sub hl [2, 3, 4, 5, 6, 7, 8, 9, 0] rfl)
      · have hf := (if_neg c1).symm.trans hf
        refine lv_iload hx hb dX5_whoLied_51 (lv_at hl 0 rfl) ?_
        obtain ⟨x53, h53, hf⟩ := bd_of hf
        refine r_callS C hW hl lk_X5_46 (c_J6_bitCount_0f7a4 h53) ⟨rfl, rfl⟩ ⟨Nat.le_of_ble_eq_true rfl, Nat.le_of_ble_eq_true rfl⟩ (As := [.int s0]) (rest := []) rfl rfl (Nat.le_of_ble_eq_true rfl) dX5_whoLied_53 ⟨Nat.zero_le _, Nat.zero_le _⟩ (fun H locs hW => ?_)
        show W p l e (rmq 4 90) s m args below meth c H locs 0 0 Q (F0 m 56 ls [.int x53])
        refine lv_iload hx hb dX5_whoLied_56 (lv_at hl 5 rfl) ?_
        refine lv_icmp_gt (tgt := 71) hx hb dX5_whoLied_58 (by decide) (fun c2 => ?_) (fun c2 => ?_)
        · have hf := (if_pos c2).symm.trans hf
          refine lv_iinc (v := (v8 + (1 : Int32))) (lv' := [(8, .int (v8 + (1 : Int32))), (9, .int s0), (0, .ref (oa (5, 0))), (1, .ref (oa (13, j1))), (2, .ref (oa (2, 0))), (3, .int v3), (4, .int v4), (5, .int v5), (6, .int v6), (7, .int v7)]) hx hb dX5_whoLied_71 hl (k := 9) rfl rfl (by decide) rfl (fun ls hl => ?_)
          refine lv_goto (tgt := 9) hx hb dX5_whoLied_74 (by decide) ?_
          obtain rfl := Option.some.inj hf
          exact Kl1 _ rfl _ _ _ hW (lv_sub hl [2, 3, 4, 5, 6, 7, 8, 9, 0] rfl)
        · have hf := (if_neg c2).symm.trans hf
          refine lv_iinc (v := (v6 + (1 : Int32))) (lv' := [(6, .int (v6 + (1 : Int32))), (9, .int s0), (0, .ref (oa (5, 0))), (1, .ref (oa (13, j1))), (2, .ref (oa (2, 0))), (3, .int v3), (4, .int v4), (5, .int v5), (7, .int v7), (8, .int v8)]) hx hb dX5_whoLied_61 hl (k := 7) rfl rfl (by decide) rfl (fun ls hl => ?_)
          refine lv_iload hx hb dX5_whoLied_64 (lv_at hl 8 rfl) ?_
          refine lv_iload hx hb dX5_whoLied_66 (lv_at hl 1 rfl) ?_
          refine lv_ior hx hb dX5_whoLied_68 ?_
          refine lv_istore (lv' := [(7, .int (v7 ||| s0)), (6, .int (v6 + (1 : Int32))), (9, .int s0), (0, .ref (oa (5, 0))), (1, .ref (oa (13, j1))), (2, .ref (oa (2, 0))), (3, .int v3), (4, .int v4), (5, .int v5), (8, .int v8)]) hx hb dX5_whoLied_69 hl (by decide) rfl (fun ls hl => ?_)
          refine lv_iinc (v := (v8 + (1 : Int32))) (lv' := [(8, .int (v8 + (1 : Int32))), (7, .int (v7 ||| s0)), (6, .int (v6 + (1 : Int32))), (9, .int s0), (0, .ref (oa (5, 0))), (1, .ref (oa (13, j1))), (2, .ref (oa (2, 0))), (3, .int v3), (4, .int v4), (5, .int v5)]) hx hb dX5_whoLied_71 hl (k := 9) rfl rfl (by decide) rfl (fun ls hl => ?_)
          refine lv_goto (tgt := 9) hx hb dX5_whoLied_74 (by decide) ?_
          obtain rfl := Option.some.inj hf
          exact Kl1 _ rfl _ _ _ hW (lv_sub hl [4, 5, 6, 7, 8, 9, 2, 1, 0] rfl)
    refine lv_iload hx hb dX5_whoLied_9 (lv_at hl 8 rfl) ?_
    refine lv_aload_n hx hb dX5_whoLied_11 rfl (lv_at hl 1 rfl) ?_
    refine gf_X5_66 C hW hj1 dX5_whoLied_12 ?_
    refine lv_icmp_ge (tgt := 77) hx hb dX5_whoLied_15 (by decide) (fun c3 => ?_) (fun c3 => ?_)
    · have hf := (if_pos c3).symm.trans hf
      obtain ⟨x9005, hf, hx9005⟩ := map_of hf
      have e9005 := (Kr1 _ hx9005.symm).symm
      subst e9005
      refine lv_iload hx hb dX5_whoLied_77 (lv_at hl 5 rfl) ?_
      refine lv_if_eq (tgt := 87) hx hb dX5_whoLied_79 (by decide) (fun c4 => ?_) (fun c4 => ?_)
      · have hf := (if_pos c4).symm.trans hf
        refine lv_iload hx hb dX5_whoLied_87 (lv_at hl 6 rfl) ?_
        obtain rfl := Option.some.inj hf
        rw [hQ]
        exact r_iret C hr hk hW rfl rfl dX5_whoLied_89
      · have hf := (if_neg c4).symm.trans hf
        refine lv_iload hx hb dX5_whoLied_82 (lv_at hl 7 rfl) ?_
        refine lv_goto (tgt := 89) hx hb dX5_whoLied_84 (by decide) ?_
        obtain rfl := Option.some.inj hf
        rw [hQ]
        exact r_iret C hr hk hW rfl rfl dX5_whoLied_89
    · have hf := (if_neg c3).symm.trans hf
      refine lv_aload_n hx hb dX5_whoLied_18 rfl (lv_at hl 1 rfl) ?_
      refine lv_iload hx hb dX5_whoLied_19 (lv_at hl 8 rfl) ?_
      obtain ⟨x21, h21, hf⟩ := bd_of hf
      refine r_callV (k := ((13, j1) : Ky)) C hW hl lk_X5_69 (c_X6_stands hwf hj1 h21) ⟨rfl, rfl⟩ ⟨Nat.le_of_ble_eq_true rfl, Nat.le_of_ble_eq_true rfl⟩ rfl (faB_13 hj1) rfl (As := [.int v8]) (rest := []) rfl rfl (Nat.le_of_ble_eq_true rfl) dX5_whoLied_21 ⟨Nat.zero_le _, Nat.zero_le _⟩ (fun H locs hW => ?_)
      show W p l e (rmq 4 90) s m args below meth c H locs 0 0 Q (F0 m 24 ls [.int x21])
      refine lv_if_eq (tgt := 39) hx hb dX5_whoLied_24 (by decide) (fun c6 => ?_) (fun c6 => ?_)
      · have hf := (if_pos c6).symm.trans hf
        refine lv_iconst (v := 0) hx hb dX5_whoLied_39 (by decide) ?_
        exact J40 v6 v7 v8 (0 : Int32) _ _ _ hf hW (lv_sub hl [0, 1, 2, 3, 4, 5, 6, 7, 8] rfl)
      · have hf := (if_neg c6).symm.trans hf
        refine lv_aload_n hx hb dX5_whoLied_27 rfl (lv_at hl 0 rfl) ?_
        refine lv_aload_n hx hb dX5_whoLied_28 rfl (lv_at hl 1 rfl) ?_
        refine lv_aload_n hx hb dX5_whoLied_29 rfl (lv_at hl 2 rfl) ?_
        refine lv_iload_n hx hb dX5_whoLied_30 rfl (lv_at hl 3 rfl) ?_
        refine lv_iload hx hb dX5_whoLied_31 (lv_at hl 8 rfl) ?_
        obtain ⟨x33, h33, hf⟩ := bd_of hf
        refine r_callV (k := ((5, 0) : Ky)) C hW hl lk_X5_161 (c_X5_liarsIn hwf hj1 h33) ⟨rfl, rfl⟩ ⟨Nat.le_of_ble_eq_true rfl, Nat.le_of_ble_eq_true rfl⟩ rfl rfl rfl (As := [.ref (oa (13, j1)), .ref (oa (2, 0)), .int v3, .int v8]) (rest := []) rfl rfl (Nat.le_of_ble_eq_true rfl) dX5_whoLied_33 ⟨Nat.zero_le _, Nat.zero_le _⟩ (fun H locs hW => ?_)
        show W p l e (rmq 4 90) s m args below meth c H locs 0 0 Q (F0 m 36 ls [.int x33])
        refine lv_goto (tgt := 40) hx hb dX5_whoLied_36 (by decide) ?_
        exact J40 v6 v7 v8 x33 _ _ _ hf hW (lv_sub hl [0, 1, 2, 3, 4, 5, 6, 7, 8] rfl)
  exact L9 (0 : Int32) (0 : Int32) (0 : Int32) _ _ _ hf hW (lv_sub hl [3, 4, 5, 6, 7, 8, 2, 1, 0] rfl)
set_option maxHeartbeats 4000000 in
set_option maxRecDepth 100000 in
theorem c_X5_gatherFriends {l : Launch} {D : va_G} {tc : Nat → ClassId} {ro : Ro} {oa : Ky → Nat} {aa : Nat → Nat} {sh : Sh} {ln : Nat → Nat} {j1 : Nat} {μ : Mm} {res : Mm} (hwf : WfS sh) (hj1 : sh 2 j1 = 1) (hf : f_X5_gatherFriends sh ln j1 μ = some res) : Ct l D tc ro (faB oa aa sh) (feB tc oa aa sh ln) yX5_gatherFriends cX5_gatherFriends 3 none (rmq 4 96) [.ref (oa (5, 0)), .ref (oa (13, j1))] μ none res := by
  refine Ct.of (by decide) (Nat.le_of_ble_eq_true rfl) (fun p e s m args below meth c A C hr hk hW ls hl => ?_)
  have hx := C.1.1
  have hb := C.1.2.1
  obtain ⟨Q, hQ⟩ : ∃ Q, Q = MQ below (Ctq D (faB oa aa sh) (feB tc oa aa sh ln) none res A) args s 0 0 A := ⟨_, rfl⟩
  rw [← hQ]
  have hl : lv_has ls 3 [(0, .ref (oa (5, 0))), (1, .ref (oa (13, j1)))] := hl
  unfold f_X5_gatherFriends at hf
  refine lv_iconst (v := 0) hx hb dX5_gatherFriends_0 (by decide) ?_
  refine lv_istore_n (lv' := [(2, .int (0 : Int32)), (0, .ref (oa (5, 0))), (1, .ref (oa (13, j1)))]) hx hb dX5_gatherFriends_1 rfl hl (by decide) rfl (fun ls hl => ?_)
  have L2 : ∀ (μ : Mm) (v2 : Int32) (H : Heap) (locs : List Loc) (ls : Array Slot), Wh (fun z : Mm × Int32 => f_X5_gatherFriends_L2 sh ln j1 z.1 z.2) (μ, v2) = some res → Wd D (faB oa aa sh) (feB tc oa aa sh ln) A s.heap μ H locs → lv_has ls 3 [(0, .ref (oa (5, 0))), (1, .ref (oa (13, j1))), (2, .int v2)] → W p l e (rmq 4 96) s m args below meth c H locs 0 0 Q (F0 m 2 ls []) := by
    intro μ v2 H locs ls hf hW hl
    refine Wh_rule hf (fun z : Mm × Int32 => ∀ (H : Heap) (locs : List Loc) (ls : Array Slot), Wd D (faB oa aa sh) (feB tc oa aa sh ln) A s.heap z.1 H locs → lv_has ls 3 [(0, .ref (oa (5, 0))), (1, .ref (oa (13, j1))), (2, .int z.2)] → W p l e (rmq 4 96) s m args below meth c H locs 0 0 Q (F0 m 2 ls [])) (fun z o1 hf Kl1 Kr1 => ?_) _ _ _ hW hl
    obtain ⟨μ, v2⟩ := z
    intro H locs ls hW hl
    have hf : f_X5_gatherFriends_L2 sh ln j1 μ v2 = some o1 := hf
    unfold f_X5_gatherFriends_L2 at hf
    have hW : Wd D (faB oa aa sh) (feB tc oa aa sh ln) A s.heap μ H locs := hW
    have hl : lv_has ls 3 [(0, .ref (oa (5, 0))), (1, .ref (oa (13, j1))), (2, .int v2)] := hl
    refine lv_iload_n hx hb dX5_gatherFriends_2 rfl (lv_at hl 2 rfl) ?_
    refine lv_aload_n hx hb dX5_gatherFriends_3 rfl (lv_at hl 1 rfl) ?_
    refine gf_X5_42 C hW hj1 dX5_gatherFriends_4 ?_
    refine lv_icmp_ge (tgt := 33) hx hb dX5_gatherFriends_7 (by decide) (fun c1 => ?_) (fun c1 => ?_)
    · have hf := (if_pos c1).symm.trans hf
      obtain ⟨x9002, hf, hx9002⟩ := map_of hf
      have e9002 := (Kr1 _ hx9002.symm).symm
      subst e9002
      obtain rfl := Option.some.inj hf
      rw [hQ]
      exact r_vret C hr hk hW rfl rfl dX5_gatherFriends_33
    · have hf := (if_neg c1).symm.trans hf
      refine lv_aload_n hx hb dX5_gatherFriends_10 rfl (lv_at hl 0 rfl) ?_
      refine gf_X5_28 C hW dX5_gatherFriends_11 ?_
      refine lv_iload_n hx hb dX5_gatherFriends_14 rfl (lv_at hl 2 rfl) ?_
      refine lv_aload_n hx hb dX5_gatherFriends_15 rfl (lv_at hl 0 rfl) ?_
      refine gf_X5_34 C hW dX5_gatherFriends_16 ?_
      refine lv_aload_n hx hb dX5_gatherFriends_19 rfl (lv_at hl 1 rfl) ?_
      refine lv_iload_n hx hb dX5_gatherFriends_20 rfl (lv_at hl 2 rfl) ?_
      obtain ⟨x21, h21, hf⟩ := bd_of hf
      refine r_callV (k := ((3, 0) : Ky)) C hW hl lk_X5_184 (c_X4_knownBits hwf hj1 h21) ⟨rfl, rfl⟩ ⟨Nat.le_of_ble_eq_true rfl, Nat.le_of_ble_eq_true rfl⟩ rfl rfl rfl (As := [.ref (oa (13, j1)), .int v2]) (rest := [.int v2, .ref (oa (11, 13))]) rfl rfl (Nat.le_of_ble_eq_true rfl) dX5_gatherFriends_21 ⟨Nat.zero_le _, Nat.zero_le _⟩ (fun H locs hW => ?_)
      show W p l e (rmq 4 96) s m args below meth c H locs 0 0 Q (F0 m 24 ls [.int x21, .int v2, .ref (oa (11, 13))])
      obtain ⟨x24, h24, hf⟩ := bd_of hf
      refine r_callV (k := ((11, 13) : Ky)) C hW hl lk_X5_79 (c_X1_put hwf rfl h24) ⟨rfl, rfl⟩ ⟨Nat.le_of_ble_eq_true rfl, Nat.le_of_ble_eq_true rfl⟩ rfl (faB_11 rfl) rfl (As := [.int v2, .int x21]) (rest := []) rfl rfl (Nat.le_of_ble_eq_true rfl) dX5_gatherFriends_24 ⟨Nat.zero_le _, Nat.zero_le _⟩ (fun H locs hW => ?_)
      show W p l e (rmq 4 96) s m args below meth c H locs 0 0 Q (F0 m 27 ls [])
      refine lv_iinc (v := (v2 + (1 : Int32))) (lv' := [(2, .int (v2 + (1 : Int32))), (0, .ref (oa (5, 0))), (1, .ref (oa (13, j1)))]) hx hb dX5_gatherFriends_27 hl (k := 2) rfl rfl (by decide) rfl (fun ls hl => ?_)
      refine lv_goto (tgt := 2) hx hb dX5_gatherFriends_30 (by decide) ?_
      obtain rfl := Option.some.inj hf
      exact Kl1 _ rfl _ _ _ hW (lv_sub hl [1, 2, 0] rfl)
  exact L2 μ (0 : Int32) _ _ _ hf hW (lv_sub hl [1, 2, 0] rfl)
set_option maxHeartbeats 4000000 in
set_option maxRecDepth 100000 in
theorem c_X5_mayPair {l : Launch} {D : va_G} {tc : Nat → ClassId} {ro : Ro} {oa : Ky → Nat} {aa : Nat → Nat} {sh : Sh} {ln : Nat → Nat} {μ : Mm} {v1 v2 v3 : Int32} {res : Int32} (hwf : WfS sh) (hf : f_X5_mayPair sh ln μ v1 v2 v3 = some res) : Ct l D tc ro (faB oa aa sh) (feB tc oa aa sh ln) yX5_mayPair cX5_mayPair 4 (some .boolean) (rmq 1 21) [.ref (oa (5, 0)), .int v1, .int v2, .int v3] μ (some (.int res)) μ := by
  refine Ct.of (by decide) (Nat.le_of_ble_eq_true rfl) (fun p e s m args below meth c A C hr hk hW ls hl => ?_)
  have hx := C.1.1
  have hb := C.1.2.1
  obtain ⟨Q, hQ⟩ : ∃ Q, Q = MQ below (Ctq D (faB oa aa sh) (feB tc oa aa sh ln) (some (.int res)) μ A) args s 0 0 A := ⟨_, rfl⟩
  rw [← hQ]
  have hl : lv_has ls 4 [(0, .ref (oa (5, 0))), (1, .int v1), (2, .int v2), (3, .int v3)] := hl
  unfold f_X5_mayPair at hf
  refine lv_iload_n hx hb dX5_mayPair_0 rfl (lv_at hl 1 rfl) ?_
  refine lv_iload_n hx hb dX5_mayPair_1 rfl (lv_at hl 3 rfl) ?_
  refine lv_ishr hx hb dX5_mayPair_2 ?_
  refine lv_iconst (v := 1) hx hb dX5_mayPair_3 (by decide) ?_
  refine lv_iand hx hb dX5_mayPair_4 ?_
  refine lv_iconst (v := 1) hx hb dX5_mayPair_5 (by decide) ?_
  refine lv_icmp_ne (tgt := 45) hx hb dX5_mayPair_6 (by decide) (fun c1 => ?_) (fun c1 => ?_)
  · have hf := (if_neg c1).symm.trans hf
    refine lv_iconst (v := 0) hx hb dX5_mayPair_45 (by decide) ?_
    obtain rfl := Option.some.inj hf
    rw [hQ]
    exact r_zret C hr hk hW (Or.inl rfl) rfl rfl dX5_mayPair_46
  · have hf := (if_pos c1).symm.trans hf
    refine lv_aload_n hx hb dX5_mayPair_9 rfl (lv_at hl 0 rfl) ?_
    refine gf_X5_28 C hW dX5_mayPair_10 ?_
    refine lv_iload_n hx hb dX5_mayPair_13 rfl (lv_at hl 2 rfl) ?_
    obtain ⟨x14, h14, hf⟩ := bd_of hf
    refine r_callV (k := ((11, 13) : Ky)) C hW hl lk_X5_83 (c_X1_at hwf rfl h14) ⟨rfl, rfl⟩ ⟨Nat.le_of_ble_eq_true rfl, Nat.le_of_ble_eq_true rfl⟩ rfl (faB_11 rfl) rfl (As := [.int v2]) (rest := []) rfl rfl (Nat.le_of_ble_eq_true rfl) dX5_mayPair_14 ⟨Nat.zero_le _, Nat.zero_le _⟩ (fun H locs hW => ?_)
    show W p l e (rmq 1 21) s m args below meth c H locs 0 0 Q (F0 m 17 ls [.int x14])
    refine lv_iload_n hx hb dX5_mayPair_17 rfl (lv_at hl 3 rfl) ?_
    refine lv_ishr hx hb dX5_mayPair_18 ?_
    refine lv_iconst (v := 1) hx hb dX5_mayPair_19 (by decide) ?_
    refine lv_iand hx hb dX5_mayPair_20 ?_
    refine lv_iconst (v := 1) hx hb dX5_mayPair_21 (by decide) ?_
    refine lv_icmp_ne (tgt := 45) hx hb dX5_mayPair_22 (by decide) (fun c2 => ?_) (fun c2 => ?_)
    · have hf := (if_neg c2).symm.trans hf
      refine lv_iconst (v := 0) hx hb dX5_mayPair_45 (by decide) ?_
      obtain rfl := Option.some.inj hf
      rw [hQ]
      exact r_zret C hr hk hW (Or.inl rfl) rfl rfl dX5_mayPair_46
    · have hf := (if_pos c2).symm.trans hf
      refine lv_aload_n hx hb dX5_mayPair_25 rfl (lv_at hl 0 rfl) ?_
      refine gf_X5_28 C hW dX5_mayPair_26 ?_
      refine lv_iload_n hx hb dX5_mayPair_29 rfl (lv_at hl 3 rfl) ?_
      obtain ⟨x30, h30, hf⟩ := bd_of hf
      refine r_callV (k := ((11, 13) : Ky)) C hW hl lk_X5_83 (c_X1_at hwf rfl h30) ⟨rfl, rfl⟩ ⟨Nat.le_of_ble_eq_true rfl, Nat.le_of_ble_eq_true rfl⟩ rfl (faB_11 rfl) rfl (As := [.int v3]) (rest := []) rfl rfl (Nat.le_of_ble_eq_true rfl) dX5_mayPair_30 ⟨Nat.zero_le _, Nat.zero_le _⟩ (fun H locs hW => ?_)
      show W p l e (rmq 1 21) s m args below meth c H locs 0 0 Q (F0 m 33 ls [.int x30])
      refine lv_iload_n hx hb dX5_mayPair_33 rfl (lv_at hl 2 rfl) ?_
      refine lv_ishr hx hb dX5_mayPair_34 ?_
      refine lv_iconst (v := 1) hx hb dX5_mayPair_35 (by decide) ?_
      refine lv_iand hx hb dX5_mayPair_36 ?_
      refine lv_iconst (v := 1) hx hb dX5_mayPair_37 (by decide) ?_
      refine lv_icmp_ne (tgt := 45) hx hb dX5_mayPair_38 (by decide) (fun c3 => ?_) (fun c3 => ?_)
      · have hf := (if_neg c3).symm.trans hf
        refine lv_iconst (v := 0) hx hb dX5_mayPair_45 (by decide) ?_
        obtain rfl := Option.some.inj hf
        rw [hQ]
        exact r_zret C hr hk hW (Or.inl rfl) rfl rfl dX5_mayPair_46
      · have hf := (if_pos c3).symm.trans hf
        refine lv_iconst (v := 1) hx hb dX5_mayPair_41 (by decide) ?_
        refine lv_goto (tgt := 46) hx hb dX5_mayPair_42 (by decide) ?_
        obtain rfl := Option.some.inj hf
        rw [hQ]
        exact r_zret C hr hk hW (Or.inr rfl) rfl rfl dX5_mayPair_46
set_option maxHeartbeats 4000000 in
set_option maxRecDepth 100000 in
theorem c_X5_partnerOf {l : Launch} {D : va_G} {tc : Nat → ClassId} {ro : Ro} {oa : Ky → Nat} {aa : Nat → Nat} {sh : Sh} {ln : Nat → Nat} {j1 : Nat} {μ : Mm} {v2 : Int32} {res : Int32} (hwf : WfS sh) (hj1 : sh 2 j1 = 1) (hf : f_X5_partnerOf sh ln j1 μ v2 = some res) : Ct l D tc ro (faB oa aa sh) (feB tc oa aa sh ln) yX5_partnerOf cX5_partnerOf 7 (some .int) (rmq 2 44) [.ref (oa (5, 0)), .ref (oa (13, j1)), .int v2] μ (some (.int res)) μ := by
  refine Ct.of (by decide) (Nat.le_of_ble_eq_true rfl) (fun p e s m args below meth c A C hr hk hW ls hl => ?_)
  have hx := C.1.1
  have hb := C.1.2.1
  obtain ⟨Q, hQ⟩ : ∃ Q, Q = MQ below (Ctq D (faB oa aa sh) (feB tc oa aa sh ln) (some (.int res)) μ A) args s 0 0 A := ⟨_, rfl⟩
  rw [← hQ]
  have hl : lv_has ls 7 [(0, .ref (oa (5, 0))), (1, .ref (oa (13, j1))), (2, .int v2)] := hl
  unfold f_X5_partnerOf at hf
  refine lv_iconst (v := 1) hx hb dX5_partnerOf_0 (by decide) ?_
  refine lv_aload_n hx hb dX5_partnerOf_1 rfl (lv_at hl 1 rfl) ?_
  refine gf_X5_42 C hW hj1 dX5_partnerOf_2 ?_
  refine lv_ishl hx hb dX5_partnerOf_5 ?_
  refine lv_iconst (v := 1) hx hb dX5_partnerOf_6 (by decide) ?_
  refine lv_isub hx hb dX5_partnerOf_7 ?_
  refine lv_istore_n (lv' := [(3, .int (((1 : Int32) <<< ((μ (13, j1) 1) &&& 31)) - (1 : Int32))), (0, .ref (oa (5, 0))), (1, .ref (oa (13, j1))), (2, .int v2)]) hx hb dX5_partnerOf_8 rfl hl (by decide) rfl (fun ls hl => ?_)
  refine lv_iconst (v := 0) hx hb dX5_partnerOf_9 (by decide) ?_
  refine lv_istore (lv' := [(4, .int (0 : Int32)), (3, .int (((1 : Int32) <<< ((μ (13, j1) 1) &&& 31)) - (1 : Int32))), (0, .ref (oa (5, 0))), (1, .ref (oa (13, j1))), (2, .int v2)]) hx hb dX5_partnerOf_10 hl (by decide) rfl (fun ls hl => ?_)
  have L12 : ∀ (v3 v4 : Int32) (H : Heap) (locs : List Loc) (ls : Array Slot), Wh (fun z : Int32 × Int32 => f_X5_partnerOf_L12 sh ln j1 v2 μ z.1 z.2) (v3, v4) = some res → Wd D (faB oa aa sh) (feB tc oa aa sh ln) A s.heap μ H locs → lv_has ls 7 [(0, .ref (oa (5, 0))), (1, .ref (oa (13, j1))), (2, .int v2), (3, .int v3), (4, .int v4)] → W p l e (rmq 2 44) s m args below meth c H locs 0 0 Q (F0 m 12 ls []) := by
    intro v3 v4 H locs ls hf hW hl
    refine Wh_rule hf (fun z : Int32 × Int32 => ∀ (H : Heap) (locs : List Loc) (ls : Array Slot), Wd D (faB oa aa sh) (feB tc oa aa sh ln) A s.heap μ H locs → lv_has ls 7 [(0, .ref (oa (5, 0))), (1, .ref (oa (13, j1))), (2, .int v2), (3, .int z.1), (4, .int z.2)] → W p l e (rmq 2 44) s m args below meth c H locs 0 0 Q (F0 m 12 ls [])) (fun z o1 hf Kl1 Kr1 => ?_) _ _ _ hW hl
    obtain ⟨v3, v4⟩ := z
    intro H locs ls hW hl
    have hf : f_X5_partnerOf_L12 sh ln j1 v2 μ v3 v4 = some o1 := hf
    unfold f_X5_partnerOf_L12 at hf
    have hW : Wd D (faB oa aa sh) (feB tc oa aa sh ln) A s.heap μ H locs := hW
    have hl : lv_has ls 7 [(0, .ref (oa (5, 0))), (1, .ref (oa (13, j1))), (2, .int v2), (3, .int v3), (4, .int v4)] := hl
    refine lv_iload hx hb dX5_partnerOf_12 (lv_at hl 4 rfl) ?_
    refine lv_aload_n hx hb dX5_partnerOf_14 rfl (lv_at hl 1 rfl) ?_
    refine gf_X5_42 C hW hj1 dX5_partnerOf_15 ?_
    refine lv_icmp_ge (tgt := 162) hx hb dX5_partnerOf_18 (by decide) (fun c1 => ?_) (fun c1 => ?_)
    · have hf := (if_pos c1).symm.trans hf
      obtain ⟨x9002, hf, hx9002⟩ := map_of hf
      have e9002 := (Kr1 _ hx9002.symm).symm
      subst e9002
      refine lv_iconst (v := -1) hx hb dX5_partnerOf_162 (by decide) ?_
      obtain rfl := Option.some.inj hf
      rw [hQ]
      exact r_iret C hr hk hW rfl rfl dX5_partnerOf_163
    · have hf := (if_neg c1).symm.trans hf
      refine lv_iload_n hx hb dX5_partnerOf_21 rfl (lv_at hl 3 rfl) ?_
      refine lv_iload hx hb dX5_partnerOf_22 (lv_at hl 4 rfl) ?_
      refine lv_ishr hx hb dX5_partnerOf_24 ?_
      refine lv_iconst (v := 1) hx hb dX5_partnerOf_25 (by decide) ?_
      refine lv_iand hx hb dX5_partnerOf_26 ?_
      refine lv_if_ne (tgt := 33) hx hb dX5_partnerOf_27 (by decide) (fun c3 => ?_) (fun c3 => ?_)
      · have hf := (if_neg c3).symm.trans hf
        refine lv_iconst (v := -1) hx hb dX5_partnerOf_33 (by decide) ?_
        refine lv_istore (lv' := [(5, .int (-1 : Int32)), (0, .ref (oa (5, 0))), (1, .ref (oa (13, j1))), (2, .int v2), (3, .int v3), (4, .int v4)]) hx hb dX5_partnerOf_34 hl (by decide) rfl (fun ls hl => ?_)
        refine lv_aload_n hx hb dX5_partnerOf_36 rfl (lv_at hl 2 rfl) ?_
        refine gf_X5_42 C hW hj1 dX5_partnerOf_37 ?_
        refine lv_iconst (v := 1) hx hb dX5_partnerOf_40 (by decide) ?_
        refine lv_isub hx hb dX5_partnerOf_41 ?_
        refine lv_istore (lv' := [(6, .int ((μ (13, j1) 1) - (1 : Int32))), (5, .int (-1 : Int32)), (0, .ref (oa (5, 0))), (1, .ref (oa (13, j1))), (2, .int v2), (3, .int v3), (4, .int v4)]) hx hb dX5_partnerOf_42 hl (by decide) rfl (fun ls hl => ?_)
        have L44 : ∀ (v3 v4 v5 v6 : Int32) (H : Heap) (locs : List Loc) (ls : Array Slot), Wh (fun z : Int32 × Int32 => f_X5_partnerOf_L44 sh ln j1 v2 v3 v4 μ z.1 z.2) (v5, v6) = some o1 → Wd D (faB oa aa sh) (feB tc oa aa sh ln) A s.heap μ H locs → lv_has ls 7 [(0, .ref (oa (5, 0))), (1, .ref (oa (13, j1))), (2, .int v2), (3, .int v3), (4, .int v4), (5, .int v5), (6, .int v6)] → W p l e (rmq 2 44) s m args below meth c H locs 0 0 Q (F0 m 44 ls []) := by
          intro v3 v4 v5 v6 H locs ls hf hW hl
          refine Wh_rule hf (fun z : Int32 × Int32 => ∀ (H : Heap) (locs : List Loc) (ls : Array Slot), Wd D (faB oa aa sh) (feB tc oa aa sh ln) A s.heap μ H locs → lv_has ls 7 [(0, .ref (oa (5, 0))), (1, .ref (oa (13, j1))), (2, .int v2), (3, .int v3), (4, .int v4), (5, .int z.1), (6, .int z.2)] → W p l e (rmq 2 44) s m args below meth c H locs 0 0 Q (F0 m 44 ls [])) (fun z o2 hf Kl2 Kr2 => ?_) _ _ _ hW hl
          obtain ⟨v5, v6⟩ := z
          intro H locs ls hW hl
          have hf : f_X5_partnerOf_L44 sh ln j1 v2 v3 v4 μ v5 v6 = some o2 := hf
          unfold f_X5_partnerOf_L44 at hf
          have hW : Wd D (faB oa aa sh) (feB tc oa aa sh ln) A s.heap μ H locs := hW
          have hl : lv_has ls 7 [(0, .ref (oa (5, 0))), (1, .ref (oa (13, j1))), (2, .int v2), (3, .int v3), (4, .int v4), (5, .int v5), (6, .int v6)] := hl
          refine lv_iload hx hb dX5_partnerOf_44 (lv_at hl 6 rfl) ?_
          refine lv_iload hx hb dX5_partnerOf_46 (lv_at hl 4 rfl) ?_
          refine lv_icmp_le (tgt := 106) hx hb dX5_partnerOf_48 (by decide) (fun c4 => ?_) (fun c4 => ?_)
          · have hf := (if_pos c4).symm.trans hf
            obtain ⟨x9012, hf, hx9012⟩ := map_of hf
            have e9012 := (Kr2 _ hx9012.symm).symm
            subst e9012
            refine lv_iload hx hb dX5_partnerOf_106 (lv_at hl 4 rfl) ?_
            refine lv_iload_n hx hb dX5_partnerOf_108 rfl (lv_at hl 2 rfl) ?_
            refine lv_icmp_eq (tgt := 118) hx hb dX5_partnerOf_109 (by decide) (fun c5 => ?_) (fun c5 => ?_)
            · have hf := (if_pos c5).symm.trans hf
              obtain ⟨x9007, hf, hx9007⟩ := map_of hf
              have e9007 := (Kr1 _ hx9007.symm).symm
              subst e9007
              refine lv_iload hx hb dX5_partnerOf_118 (lv_at hl 4 rfl) ?_
              refine lv_iload_n hx hb dX5_partnerOf_120 rfl (lv_at hl 2 rfl) ?_
              refine lv_icmp_ne (tgt := 129) hx hb dX5_partnerOf_121 (by decide) (fun c6 => ?_) (fun c6 => ?_)
              · have hf := (if_neg c6).symm.trans hf
                refine lv_iload hx hb dX5_partnerOf_129 (lv_at hl 4 rfl) ?_
                obtain rfl := Option.some.inj hf
                rw [hQ]
                exact r_iret C hr hk hW rfl rfl dX5_partnerOf_131
              · have hf := (if_pos c6).symm.trans hf
                refine lv_iload hx hb dX5_partnerOf_124 (lv_at hl 5 rfl) ?_
                refine lv_goto (tgt := 131) hx hb dX5_partnerOf_126 (by decide) ?_
                obtain rfl := Option.some.inj hf
                rw [hQ]
                exact r_iret C hr hk hW rfl rfl dX5_partnerOf_131
            · have hf := (if_neg c5).symm.trans hf
              refine lv_iload hx hb dX5_partnerOf_112 (lv_at hl 5 rfl) ?_
              refine lv_iload_n hx hb dX5_partnerOf_114 rfl (lv_at hl 2 rfl) ?_
              refine lv_icmp_ne (tgt := 132) hx hb dX5_partnerOf_115 (by decide) (fun c8 => ?_) (fun c8 => ?_)
              · have hf := (if_neg c8).symm.trans hf
                refine lv_iload_n hx hb dX5_partnerOf_132 rfl (lv_at hl 3 rfl) ?_
                refine lv_iconst (v := 1) hx hb dX5_partnerOf_133 (by decide) ?_
                refine lv_iload hx hb dX5_partnerOf_134 (lv_at hl 4 rfl) ?_
                refine lv_ishl hx hb dX5_partnerOf_136 ?_
                refine lv_iload hx hb dX5_partnerOf_137 (lv_at hl 5 rfl) ?_
                refine lv_iconst (v := -1) hx hb dX5_partnerOf_139 (by decide) ?_
                refine lv_icmp_ne (tgt := 147) hx hb dX5_partnerOf_140 (by decide) (fun c9 => ?_) (fun c9 => ?_)
                · have hf := (if_neg c9).symm.trans hf
                  refine lv_iconst (v := 1) hx hb dX5_partnerOf_147 (by decide) ?_
                  refine lv_iload hx hb dX5_partnerOf_148 (lv_at hl 5 rfl) ?_
                  refine lv_ishl hx hb dX5_partnerOf_150 ?_
                  refine lv_ior hx hb dX5_partnerOf_151 ?_
                  refine lv_iconst (v := -1) hx hb dX5_partnerOf_152 (by decide) ?_
                  refine lv_ixor hx hb dX5_partnerOf_153 ?_
                  refine lv_iand hx hb dX5_partnerOf_154 ?_
                  refine lv_istore_n (lv' := [(3, .int (v3 &&& ((((1 : Int32) <<< (v4 &&& 31)) ||| ((1 : Int32) <<< (v5 &&& 31))) ^^^ (-1 : Int32)))), (0, .ref (oa (5, 0))), (1, .ref (oa (13, j1))), (2, .int v2), (4, .int v4), (5, .int v5), (6, .int v6)]) hx hb dX5_partnerOf_155 rfl hl (by decide) rfl (fun ls hl => ?_)
                  refine lv_iinc (v := (v4 + (1 : Int32))) (lv' := [(4, .int (v4 + (1 : Int32))), (3, .int (v3 &&& ((((1 : Int32) <<< (v4 &&& 31)) ||| ((1 : Int32) <<< (v5 &&& 31))) ^^^ (-1 : Int32)))), (0, .ref (oa (5, 0))), (1, .ref (oa (13, j1))), (2, .int v2), (5, .int v5), (6, .int v6)]) hx hb dX5_partnerOf_156 hl (k := 4) rfl rfl (by decide) rfl (fun ls hl => ?_)
                  refine lv_goto (tgt := 12) hx hb dX5_partnerOf_159 (by decide) ?_
                  obtain rfl := Option.some.inj hf
                  exact Kl1 _ rfl _ _ _ hW (lv_sub hl [2, 3, 4, 1, 0] rfl)
                · have hf := (if_pos c9).symm.trans hf
                  refine lv_iconst (v := 0) hx hb dX5_partnerOf_143 (by decide) ?_
                  refine lv_goto (tgt := 151) hx hb dX5_partnerOf_144 (by decide) ?_
                  refine lv_ior hx hb dX5_partnerOf_151 ?_
                  refine lv_iconst (v := -1) hx hb dX5_partnerOf_152 (by decide) ?_
                  refine lv_ixor hx hb dX5_partnerOf_153 ?_
                  refine lv_iand hx hb dX5_partnerOf_154 ?_
                  refine lv_istore_n (lv' := [(3, .int (v3 &&& ((((1 : Int32) <<< (v4 &&& 31)) ||| (0 : Int32)) ^^^ (-1 : Int32)))), (0, .ref (oa (5, 0))), (1, .ref (oa (13, j1))), (2, .int v2), (4, .int v4), (5, .int v5), (6, .int v6)]) hx hb dX5_partnerOf_155 rfl hl (by decide) rfl (fun ls hl => ?_)
                  refine lv_iinc (v := (v4 + (1 : Int32))) (lv' := [(4, .int (v4 + (1 : Int32))), (3, .int (v3 &&& ((((1 : Int32) <<< (v4 &&& 31)) ||| (0 : Int32)) ^^^ (-1 : Int32)))), (0, .ref (oa (5, 0))), (1, .ref (oa (13, j1))), (2, .int v2), (5, .int v5), (6, .int v6)]) hx hb dX5_partnerOf_156 hl (k := 4) rfl rfl (by decide) rfl (fun ls hl => ?_)
                  refine lv_goto (tgt := 12) hx hb dX5_partnerOf_159 (by decide) ?_
                  obtain rfl := Option.some.inj hf
                  exact Kl1 _ rfl _ _ _ hW (lv_sub hl [2, 3, 4, 1, 0] rfl)
              · have hf := (if_pos c8).symm.trans hf
                obtain ⟨x9011, hf, hx9011⟩ := map_of hf
                have e9011 := (Kr1 _ hx9011.symm).symm
                subst e9011
                refine lv_iload hx hb dX5_partnerOf_118 (lv_at hl 4 rfl) ?_
                refine lv_iload_n hx hb dX5_partnerOf_120 rfl (lv_at hl 2 rfl) ?_
                refine lv_icmp_ne (tgt := 129) hx hb dX5_partnerOf_121 (by decide) (fun c10 => ?_) (fun c10 => ?_)
                · have hf := (if_neg c10).symm.trans hf
                  refine lv_iload hx hb dX5_partnerOf_129 (lv_at hl 4 rfl) ?_
                  obtain rfl := Option.some.inj hf
                  rw [hQ]
                  exact r_iret C hr hk hW rfl rfl dX5_partnerOf_131
                · have hf := (if_pos c10).symm.trans hf
                  refine lv_iload hx hb dX5_partnerOf_124 (lv_at hl 5 rfl) ?_
                  refine lv_goto (tgt := 131) hx hb dX5_partnerOf_126 (by decide) ?_
                  obtain rfl := Option.some.inj hf
                  rw [hQ]
                  exact r_iret C hr hk hW rfl rfl dX5_partnerOf_131
          · have hf := (if_neg c4).symm.trans hf
            refine lv_aload_n hx hb dX5_partnerOf_51 rfl (lv_at hl 0 rfl) ?_
            refine lv_iload_n hx hb dX5_partnerOf_52 rfl (lv_at hl 3 rfl) ?_
            refine lv_iload hx hb dX5_partnerOf_53 (lv_at hl 4 rfl) ?_
            refine lv_iload hx hb dX5_partnerOf_55 (lv_at hl 6 rfl) ?_
            obtain ⟨x57, h57, hf⟩ := bd_of hf
            refine r_callV (k := ((5, 0) : Ky)) C hW hl lk_X5_172 (c_X5_mayPair hwf h57) ⟨rfl, rfl⟩ ⟨Nat.le_of_ble_eq_true rfl, Nat.le_of_ble_eq_true rfl⟩ rfl rfl rfl (As := [.int v3, .int v4, .int v6]) (rest := []) rfl rfl (Nat.le_of_ble_eq_true rfl) dX5_partnerOf_57 ⟨Nat.zero_le _, Nat.zero_le _⟩ (fun H locs hW => ?_)
            show W p l e (rmq 2 44) s m args below meth c H locs 0 0 Q (F0 m 60 ls [.int x57])
            refine lv_if_eq (tgt := 100) hx hb dX5_partnerOf_60 (by decide) (fun c13 => ?_) (fun c13 => ?_)
            · have hf := (if_pos c13).symm.trans hf
              refine lv_iinc (v := (v6 + (-1 : Int32))) (lv' := [(6, .int (v6 + (-1 : Int32))), (0, .ref (oa (5, 0))), (1, .ref (oa (13, j1))), (2, .int v2), (3, .int v3), (4, .int v4), (5, .int v5)]) hx hb dX5_partnerOf_100 hl (k := 6) rfl rfl (by decide) rfl (fun ls hl => ?_)
              refine lv_goto (tgt := 44) hx hb dX5_partnerOf_103 (by decide) ?_
              obtain rfl := Option.some.inj hf
              exact Kl2 _ rfl _ _ _ hW (lv_sub hl [1, 2, 3, 4, 5, 6, 0] rfl)
            · have hf := (if_neg c13).symm.trans hf
              refine lv_iconst (v := 1) hx hb dX5_partnerOf_63 (by decide) ?_
              refine lv_aload_n hx hb dX5_partnerOf_64 rfl (lv_at hl 0 rfl) ?_
              refine gf_X5_22 C hW dX5_partnerOf_65 ?_
              refine lv_iload_n hx hb dX5_partnerOf_68 rfl (lv_at hl 3 rfl) ?_
              refine lv_iconst (v := 1) hx hb dX5_partnerOf_69 (by decide) ?_
              refine lv_iload hx hb dX5_partnerOf_70 (lv_at hl 4 rfl) ?_
              refine lv_ishl hx hb dX5_partnerOf_72 ?_
              refine lv_iconst (v := 1) hx hb dX5_partnerOf_73 (by decide) ?_
              refine lv_iload hx hb dX5_partnerOf_74 (lv_at hl 6 rfl) ?_
              refine lv_ishl hx hb dX5_partnerOf_76 ?_
              refine lv_ior hx hb dX5_partnerOf_77 ?_
              refine lv_iconst (v := -1) hx hb dX5_partnerOf_78 (by decide) ?_
              refine lv_ixor hx hb dX5_partnerOf_79 ?_
              refine lv_iand hx hb dX5_partnerOf_80 ?_
              obtain ⟨x81, h81, hf⟩ := bd_of hf
              refine r_callV (k := ((11, 11) : Ky)) C hW hl lk_X5_83 (c_X1_at hwf rfl h81) ⟨rfl, rfl⟩ ⟨Nat.le_of_ble_eq_true rfl, Nat.le_of_ble_eq_true rfl⟩ rfl (faB_11 rfl) rfl (As := [.int (v3 &&& ((((1 : Int32) <<< (v4 &&& 31)) ||| ((1 : Int32) <<< (v6 &&& 31))) ^^^ (-1 : Int32)))]) (rest := [.int (1 : Int32)]) rfl rfl (Nat.le_of_ble_eq_true rfl) dX5_partnerOf_81 ⟨Nat.zero_le _, Nat.zero_le _⟩ (fun H locs hW => ?_)
              show W p l e (rmq 2 44) s m args below meth c H locs 0 0 Q (F0 m 84 ls [.int x81, .int (1 : Int32)])
              refine lv_iadd hx hb dX5_partnerOf_84 ?_
              refine lv_aload_n hx hb dX5_partnerOf_85 rfl (lv_at hl 0 rfl) ?_
              refine gf_X5_22 C hW dX5_partnerOf_86 ?_
              refine lv_iload_n hx hb dX5_partnerOf_89 rfl (lv_at hl 3 rfl) ?_
              obtain ⟨x90, h90, hf⟩ := bd_of hf
              refine r_callV (k := ((11, 11) : Ky)) C hW hl lk_X5_83 (c_X1_at hwf rfl h90) ⟨rfl, rfl⟩ ⟨Nat.le_of_ble_eq_true rfl, Nat.le_of_ble_eq_true rfl⟩ rfl (faB_11 rfl) rfl (As := [.int v3]) (rest := [.int ((1 : Int32) + x81)]) rfl rfl (Nat.le_of_ble_eq_true rfl) dX5_partnerOf_90 ⟨Nat.zero_le _, Nat.zero_le _⟩ (fun H locs hW => ?_)
              show W p l e (rmq 2 44) s m args below meth c H locs 0 0 Q (F0 m 93 ls [.int x90, .int ((1 : Int32) + x81)])
              refine lv_icmp_ne (tgt := 100) hx hb dX5_partnerOf_93 (by decide) (fun c14 => ?_) (fun c14 => ?_)
              · have hf := (if_neg c14).symm.trans hf
                refine lv_iinc (v := (v6 + (-1 : Int32))) (lv' := [(6, .int (v6 + (-1 : Int32))), (0, .ref (oa (5, 0))), (1, .ref (oa (13, j1))), (2, .int v2), (3, .int v3), (4, .int v4), (5, .int v5)]) hx hb dX5_partnerOf_100 hl (k := 6) rfl rfl (by decide) rfl (fun ls hl => ?_)
                refine lv_goto (tgt := 44) hx hb dX5_partnerOf_103 (by decide) ?_
                obtain rfl := Option.some.inj hf
                exact Kl2 _ rfl _ _ _ hW (lv_sub hl [1, 2, 3, 4, 5, 6, 0] rfl)
              · have hf := (if_pos c14).symm.trans hf
                refine lv_iload hx hb dX5_partnerOf_96 (lv_at hl 6 rfl) ?_
                refine lv_istore (lv' := [(5, .int v6), (0, .ref (oa (5, 0))), (1, .ref (oa (13, j1))), (2, .int v2), (3, .int v3), (4, .int v4), (6, .int v6)]) hx hb dX5_partnerOf_98 hl (by decide) rfl (fun ls hl => ?_)
                refine lv_iinc (v := (v6 + (-1 : Int32))) (lv' := [(6, .int (v6 + (-1 : Int32))), (5, .int v6), (0, .ref (oa (5, 0))), (1, .ref (oa (13, j1))), (2, .int v2), (3, .int v3), (4, .int v4)]) hx hb dX5_partnerOf_100 hl (k := 6) rfl rfl (by decide) rfl (fun ls hl => ?_)
                refine lv_goto (tgt := 44) hx hb dX5_partnerOf_103 (by decide) ?_
                obtain rfl := Option.some.inj hf
                exact Kl2 _ rfl _ _ _ hW (lv_sub hl [2, 3, 4, 5, 6, 1, 0] rfl)
        exact L44 v3 v4 (-1 : Int32) ((μ (13, j1) 1) - (1 : Int32)) _ _ _ hf hW (lv_sub hl [2, 3, 4, 5, 6, 1, 0] rfl)
      · have hf := (if_pos c3).symm.trans hf
        refine lv_goto (tgt := 156) hx hb dX5_partnerOf_30 (by decide) ?_
        refine lv_iinc (v := (v4 + (1 : Int32))) (lv' := [(4, .int (v4 + (1 : Int32))), (0, .ref (oa (5, 0))), (1, .ref (oa (13, j1))), (2, .int v2), (3, .int v3)]) hx hb dX5_partnerOf_156 hl (k := 4) rfl rfl (by decide) rfl (fun ls hl => ?_)
        refine lv_goto (tgt := 12) hx hb dX5_partnerOf_159 (by decide) ?_
        obtain rfl := Option.some.inj hf
        exact Kl1 _ rfl _ _ _ hW (lv_sub hl [1, 2, 3, 4, 0] rfl)
  exact L12 (((1 : Int32) <<< ((μ (13, j1) 1) &&& 31)) - (1 : Int32)) (0 : Int32) _ _ _ hf hW (lv_sub hl [2, 3, 4, 1, 0] rfl)
set_option maxHeartbeats 4000000 in
set_option maxRecDepth 100000 in
theorem c_X5_marry {l : Launch} {D : va_G} {tc : Nat → ClassId} {ro : Ro} {oa : Ky → Nat} {aa : Nat → Nat} {sh : Sh} {ln : Nat → Nat} {j1 : Nat} {μ : Mm} {v2 : Int32} {res : Int32 × Mm} (hwf : WfS sh) (hj1 : sh 2 j1 = 1) (hf : f_X5_marry sh ln j1 μ v2 = some res) : Ct l D tc ro (faB oa aa sh) (feB tc oa aa sh ln) yX5_marry cX5_marry 8 (some .int) (rmq 5 118) [.ref (oa (5, 0)), .ref (oa (13, j1)), .int v2] μ (some (.int res.1)) res.2 := by
  refine Ct.of (by decide) (Nat.le_of_ble_eq_true rfl) (fun p e s m args below meth c A C hr hk hW ls hl => ?_)
  have hx := C.1.1
  have hb := C.1.2.1
  obtain ⟨Q, hQ⟩ : ∃ Q, Q = MQ below (Ctq D (faB oa aa sh) (feB tc oa aa sh ln) (some (.int res.1)) res.2 A) args s 0 0 A := ⟨_, rfl⟩
  rw [← hQ]
  have hl : lv_has ls 8 [(0, .ref (oa (5, 0))), (1, .ref (oa (13, j1))), (2, .int v2)] := hl
  unfold f_X5_marry at hf
  refine lv_aload_n hx hb dX5_marry_0 rfl (lv_at hl 0 rfl) ?_
  refine lv_aload_n hx hb dX5_marry_1 rfl (lv_at hl 1 rfl) ?_
  obtain ⟨x2, h2, hf⟩ := bd_of hf
  refine r_callV (k := ((5, 0) : Ky)) C hW hl lk_X5_165 (c_X5_gatherFriends hwf hj1 h2) ⟨rfl, rfl⟩ ⟨Nat.le_of_ble_eq_true rfl, Nat.le_of_ble_eq_true rfl⟩ rfl rfl rfl (As := [.ref (oa (13, j1))]) (rest := []) rfl rfl (Nat.le_of_ble_eq_true rfl) dX5_marry_2 ⟨Nat.zero_le _, Nat.zero_le _⟩ (fun H locs hW => ?_)
  show W p l e (rmq 5 118) s m args below meth c H locs 0 0 Q (F0 m 5 ls [])
  refine lv_iconst (v := 1) hx hb dX5_marry_5 (by decide) ?_
  refine lv_aload_n hx hb dX5_marry_6 rfl (lv_at hl 1 rfl) ?_
  refine gf_X5_42 C hW hj1 dX5_marry_7 ?_
  refine lv_ishl hx hb dX5_marry_10 ?_
  refine lv_istore_n (lv' := [(3, .int ((1 : Int32) <<< ((x2 (13, j1) 1) &&& 31))), (0, .ref (oa (5, 0))), (1, .ref (oa (13, j1))), (2, .int v2)]) hx hb dX5_marry_11 rfl hl (by decide) rfl (fun ls hl => ?_)
  refine lv_aload_n hx hb dX5_marry_12 rfl (lv_at hl 1 rfl) ?_
  refine gf_X5_22 C hW dX5_marry_13 ?_
  refine lv_iconst (v := 0) hx hb dX5_marry_16 (by decide) ?_
  refine lv_iconst (v := 0) hx hb dX5_marry_17 (by decide) ?_
  obtain ⟨x18, h18, hf⟩ := bd_of hf
  refine r_callV (k := ((11, 11) : Ky)) C hW hl lk_X5_79 (c_X1_put hwf rfl h18) ⟨rfl, rfl⟩ ⟨Nat.le_of_ble_eq_true rfl, Nat.le_of_ble_eq_true rfl⟩ rfl (faB_11 rfl) rfl (As := [.int (0 : Int32), .int (0 : Int32)]) (rest := []) rfl rfl (Nat.le_of_ble_eq_true rfl) dX5_marry_18 ⟨Nat.zero_le _, Nat.zero_le _⟩ (fun H locs hW => ?_)
  show W p l e (rmq 5 118) s m args below meth c H locs 0 0 Q (F0 m 21 ls [])
  refine lv_iconst (v := 1) hx hb dX5_marry_21 (by decide) ?_
  refine lv_istore (lv' := [(4, .int (1 : Int32)), (3, .int ((1 : Int32) <<< ((x2 (13, j1) 1) &&& 31))), (0, .ref (oa (5, 0))), (1, .ref (oa (13, j1))), (2, .int v2)]) hx hb dX5_marry_22 hl (by decide) rfl (fun ls hl => ?_)
  have L24 : ∀ (μ : Mm) (v3 v4 : Int32) (H : Heap) (locs : List Loc) (ls : Array Slot), Wh (fun z : Mm × Int32 => f_X5_marry_L24 sh ln j1 v2 v3 z.1 z.2) (μ, v4) = some res → Wd D (faB oa aa sh) (feB tc oa aa sh ln) A s.heap μ H locs → lv_has ls 8 [(0, .ref (oa (5, 0))), (1, .ref (oa (13, j1))), (2, .int v2), (3, .int v3), (4, .int v4)] → W p l e (rmq 5 118) s m args below meth c H locs 0 0 Q (F0 m 24 ls []) := by
    intro μ v3 v4 H locs ls hf hW hl
    refine Wh_rule hf (fun z : Mm × Int32 => ∀ (H : Heap) (locs : List Loc) (ls : Array Slot), Wd D (faB oa aa sh) (feB tc oa aa sh ln) A s.heap z.1 H locs → lv_has ls 8 [(0, .ref (oa (5, 0))), (1, .ref (oa (13, j1))), (2, .int v2), (3, .int v3), (4, .int z.2)] → W p l e (rmq 5 118) s m args below meth c H locs 0 0 Q (F0 m 24 ls [])) (fun z o1 hf Kl1 Kr1 => ?_) _ _ _ hW hl
    obtain ⟨μ, v4⟩ := z
    intro H locs ls hW hl
    have hf : f_X5_marry_L24 sh ln j1 v2 v3 μ v4 = some o1 := hf
    unfold f_X5_marry_L24 at hf
    have hW : Wd D (faB oa aa sh) (feB tc oa aa sh ln) A s.heap μ H locs := hW
    have hl : lv_has ls 8 [(0, .ref (oa (5, 0))), (1, .ref (oa (13, j1))), (2, .int v2), (3, .int v3), (4, .int v4)] := hl
    refine lv_iload hx hb dX5_marry_24 (lv_at hl 4 rfl) ?_
    refine lv_iload_n hx hb dX5_marry_26 rfl (lv_at hl 3 rfl) ?_
    refine lv_icmp_ge (tgt := 136) hx hb dX5_marry_27 (by decide) (fun c1 => ?_) (fun c1 => ?_)
    · have hf := (if_pos c1).symm.trans hf
      obtain ⟨x9003, hf, hx9003⟩ := map_of hf
      have e9003 := (Kr1 _ hx9003.symm).symm
      subst e9003
      refine lv_iload_n hx hb dX5_marry_136 rfl (lv_at hl 2 rfl) ?_
      refine lv_iconst (v := -1) hx hb dX5_marry_137 (by decide) ?_
      refine lv_icmp_ne (tgt := 154) hx hb dX5_marry_138 (by decide) (fun c2 => ?_) (fun c2 => ?_)
      · have hf := (if_neg c2).symm.trans hf
        refine lv_aload_n hx hb dX5_marry_154 rfl (lv_at hl 0 rfl) ?_
        refine lv_aload_n hx hb dX5_marry_155 rfl (lv_at hl 1 rfl) ?_
        refine lv_iload_n hx hb dX5_marry_156 rfl (lv_at hl 2 rfl) ?_
        obtain ⟨x157, h157, hf⟩ := bd_of hf
        refine r_callV (k := ((5, 0) : Ky)) C hW hl lk_X5_181 (c_X5_partnerOf hwf hj1 h157) ⟨rfl, rfl⟩ ⟨Nat.le_of_ble_eq_true rfl, Nat.le_of_ble_eq_true rfl⟩ rfl rfl rfl (As := [.ref (oa (13, j1)), .int v2]) (rest := []) rfl rfl (Nat.le_of_ble_eq_true rfl) dX5_marry_157 ⟨Nat.zero_le _, Nat.zero_le _⟩ (fun H locs hW => ?_)
        show W p l e (rmq 5 118) s m args below meth c H locs 0 0 Q (F0 m 160 ls [.int x157])
        obtain rfl := Option.some.inj hf
        rw [hQ]
        exact r_iret C hr hk hW rfl rfl dX5_marry_160
      · have hf := (if_pos c2).symm.trans hf
        refine lv_aload_n hx hb dX5_marry_141 rfl (lv_at hl 0 rfl) ?_
        refine gf_X5_22 C hW dX5_marry_142 ?_
        refine lv_iload_n hx hb dX5_marry_145 rfl (lv_at hl 3 rfl) ?_
        refine lv_iconst (v := 1) hx hb dX5_marry_146 (by decide) ?_
        refine lv_isub hx hb dX5_marry_147 ?_
        obtain ⟨x148, h148, hf⟩ := bd_of hf
        refine r_callV (k := ((11, 11) : Ky)) C hW hl lk_X5_83 (c_X1_at hwf rfl h148) ⟨rfl, rfl⟩ ⟨Nat.le_of_ble_eq_true rfl, Nat.le_of_ble_eq_true rfl⟩ rfl (faB_11 rfl) rfl (As := [.int (v3 - (1 : Int32))]) (rest := []) rfl rfl (Nat.le_of_ble_eq_true rfl) dX5_marry_148 ⟨Nat.zero_le _, Nat.zero_le _⟩ (fun H locs hW => ?_)
        show W p l e (rmq 5 118) s m args below meth c H locs 0 0 Q (F0 m 151 ls [.int x148])
        refine lv_goto (tgt := 160) hx hb dX5_marry_151 (by decide) ?_
        obtain rfl := Option.some.inj hf
        rw [hQ]
        exact r_iret C hr hk hW rfl rfl dX5_marry_160
    · have hf := (if_neg c1).symm.trans hf
      refine lv_iload hx hb dX5_marry_30 (lv_at hl 4 rfl) ?_
      obtain ⟨x32, h32, hf⟩ := bd_of hf
      refine r_callS C hW hl lk_X5_169 (c_J6_numberOfTrailingZeros_0f7a4 h32) ⟨rfl, rfl⟩ ⟨Nat.le_of_ble_eq_true rfl, Nat.le_of_ble_eq_true rfl⟩ (As := [.int v4]) (rest := []) rfl rfl (Nat.le_of_ble_eq_true rfl) dX5_marry_32 ⟨Nat.zero_le _, Nat.zero_le _⟩ (fun H locs hW => ?_)
      show W p l e (rmq 5 118) s m args below meth c H locs 0 0 Q (F0 m 35 ls [.int x32])
      refine lv_istore (lv' := [(5, .int x32), (0, .ref (oa (5, 0))), (1, .ref (oa (13, j1))), (2, .int v2), (3, .int v3), (4, .int v4)]) hx hb dX5_marry_35 hl (by decide) rfl (fun ls hl => ?_)
      refine lv_aload_n hx hb dX5_marry_37 rfl (lv_at hl 1 rfl) ?_
      refine gf_X5_22 C hW dX5_marry_38 ?_
      refine lv_iload hx hb dX5_marry_41 (lv_at hl 5 rfl) ?_
      refine lv_iconst (v := 1) hx hb dX5_marry_43 (by decide) ?_
      refine lv_iload hx hb dX5_marry_44 (lv_at hl 0 rfl) ?_
      refine lv_ishl hx hb dX5_marry_46 ?_
      refine lv_iconst (v := -1) hx hb dX5_marry_47 (by decide) ?_
      refine lv_ixor hx hb dX5_marry_48 ?_
      refine lv_iand hx hb dX5_marry_49 ?_
      obtain ⟨x50, h50, hf⟩ := bd_of hf
      refine r_callV (k := ((11, 11) : Ky)) C hW hl lk_X5_83 (c_X1_at hwf rfl h50) ⟨rfl, rfl⟩ ⟨Nat.le_of_ble_eq_true rfl, Nat.le_of_ble_eq_true rfl⟩ rfl (faB_11 rfl) rfl (As := [.int (v4 &&& (((1 : Int32) <<< (x32 &&& 31)) ^^^ (-1 : Int32)))]) (rest := []) rfl rfl (Nat.le_of_ble_eq_true rfl) dX5_marry_50 ⟨Nat.zero_le _, Nat.zero_le _⟩ (fun H locs hW => ?_)
      show W p l e (rmq 5 118) s m args below meth c H locs 0 0 Q (F0 m 53 ls [.int x50])
      refine lv_istore (lv' := [(6, .int x50), (5, .int x32), (0, .ref (oa (5, 0))), (1, .ref (oa (13, j1))), (2, .int v2), (3, .int v3), (4, .int v4)]) hx hb dX5_marry_53 hl (by decide) rfl (fun ls hl => ?_)
      refine lv_iload hx hb dX5_marry_55 (lv_at hl 1 rfl) ?_
      refine lv_iconst (v := 1) hx hb dX5_marry_57 (by decide) ?_
      refine lv_iadd hx hb dX5_marry_58 ?_
      refine lv_istore (lv' := [(7, .int (x32 + (1 : Int32))), (6, .int x50), (5, .int x32), (0, .ref (oa (5, 0))), (1, .ref (oa (13, j1))), (2, .int v2), (3, .int v3), (4, .int v4)]) hx hb dX5_marry_59 hl (by decide) rfl (fun ls hl => ?_)
      have L61 : ∀ (μ : Mm) (v4 v5 v6 v7 : Int32) (H : Heap) (locs : List Loc) (ls : Array Slot), Wh (fun z : Int32 × Int32 => f_X5_marry_L61 sh ln j1 v2 v3 v4 v5 μ z.1 z.2) (v6, v7) = some o1 → Wd D (faB oa aa sh) (feB tc oa aa sh ln) A s.heap μ H locs → lv_has ls 8 [(0, .ref (oa (5, 0))), (1, .ref (oa (13, j1))), (2, .int v2), (3, .int v3), (4, .int v4), (5, .int v5), (6, .int v6), (7, .int v7)] → W p l e (rmq 5 118) s m args below meth c H locs 0 0 Q (F0 m 61 ls []) := by
        intro μ v4 v5 v6 v7 H locs ls hf hW hl
        refine Wh_rule hf (fun z : Int32 × Int32 => ∀ (H : Heap) (locs : List Loc) (ls : Array Slot), Wd D (faB oa aa sh) (feB tc oa aa sh ln) A s.heap μ H locs → lv_has ls 8 [(0, .ref (oa (5, 0))), (1, .ref (oa (13, j1))), (2, .int v2), (3, .int v3), (4, .int v4), (5, .int v5), (6, .int z.1), (7, .int z.2)] → W p l e (rmq 5 118) s m args below meth c H locs 0 0 Q (F0 m 61 ls [])) (fun z o2 hf Kl2 Kr2 => ?_) _ _ _ hW hl
        obtain ⟨v6, v7⟩ := z
        intro H locs ls hW hl
        have hf : f_X5_marry_L61 sh ln j1 v2 v3 v4 v5 μ v6 v7 = some o2 := hf
        unfold f_X5_marry_L61 at hf
        have hW : Wd D (faB oa aa sh) (feB tc oa aa sh ln) A s.heap μ H locs := hW
        have hl : lv_has ls 8 [(0, .ref (oa (5, 0))), (1, .ref (oa (13, j1))), (2, .int v2), (3, .int v3), (4, .int v4), (5, .int v5), (6, .int v6), (7, .int v7)] := hl
        refine lv_iload hx hb dX5_marry_61 (lv_at hl 7 rfl) ?_
        refine lv_aload_n hx hb dX5_marry_63 rfl (lv_at hl 1 rfl) ?_
        refine gf_X5_42 C hW hj1 dX5_marry_64 ?_
        refine lv_icmp_ge (tgt := 119) hx hb dX5_marry_67 (by decide) (fun c4 => ?_) (fun c4 => ?_)
        · have hf := (if_pos c4).symm.trans hf
          obtain ⟨x9005, hf, hx9005⟩ := map_of hf
          have e9005 := (Kr2 _ hx9005.symm).symm
          subst e9005
          refine lv_aload_n hx hb dX5_marry_119 rfl (lv_at hl 0 rfl) ?_
          refine gf_X5_22 C hW dX5_marry_120 ?_
          refine lv_iload hx hb dX5_marry_123 (lv_at hl 4 rfl) ?_
          refine lv_iload hx hb dX5_marry_125 (lv_at hl 6 rfl) ?_
          obtain ⟨x127, h127, hf⟩ := bd_of hf
          refine r_callV (k := ((11, 11) : Ky)) C hW hl lk_X5_79 (c_X1_put hwf rfl h127) ⟨rfl, rfl⟩ ⟨Nat.le_of_ble_eq_true rfl, Nat.le_of_ble_eq_true rfl⟩ rfl (faB_11 rfl) rfl (As := [.int v4, .int v6]) (rest := []) rfl rfl (Nat.le_of_ble_eq_true rfl) dX5_marry_127 ⟨Nat.zero_le _, Nat.zero_le _⟩ (fun H locs hW => ?_)
          show W p l e (rmq 5 118) s m args below meth c H locs 0 0 Q (F0 m 130 ls [])
          refine lv_iinc (v := (v4 + (1 : Int32))) (lv' := [(4, .int (v4 + (1 : Int32))), (0, .ref (oa (5, 0))), (1, .ref (oa (13, j1))), (2, .int v2), (3, .int v3), (5, .int v5), (6, .int v6), (7, .int v7)]) hx hb dX5_marry_130 hl (k := 4) rfl rfl (by decide) rfl (fun ls hl => ?_)
          refine lv_goto (tgt := 24) hx hb dX5_marry_133 (by decide) ?_
          obtain rfl := Option.some.inj hf
          exact Kl1 _ rfl _ _ _ hW (lv_sub hl [1, 2, 3, 4, 0] rfl)
        · have hf := (if_neg c4).symm.trans hf
          refine lv_aload_n hx hb dX5_marry_70 rfl (lv_at hl 0 rfl) ?_
          refine lv_iload hx hb dX5_marry_71 (lv_at hl 4 rfl) ?_
          refine lv_iload hx hb dX5_marry_73 (lv_at hl 5 rfl) ?_
          refine lv_iload hx hb dX5_marry_75 (lv_at hl 7 rfl) ?_
          obtain ⟨x77, h77, hf⟩ := bd_of hf
          refine r_callV (k := ((5, 0) : Ky)) C hW hl lk_X5_172 (c_X5_mayPair hwf h77) ⟨rfl, rfl⟩ ⟨Nat.le_of_ble_eq_true rfl, Nat.le_of_ble_eq_true rfl⟩ rfl rfl rfl (As := [.int v4, .int v5, .int v7]) (rest := []) rfl rfl (Nat.le_of_ble_eq_true rfl) dX5_marry_77 ⟨Nat.zero_le _, Nat.zero_le _⟩ (fun H locs hW => ?_)
          show W p l e (rmq 5 118) s m args below meth c H locs 0 0 Q (F0 m 80 ls [.int x77])
          refine lv_if_eq (tgt := 113) hx hb dX5_marry_80 (by decide) (fun c6 => ?_) (fun c6 => ?_)
          · have hf := (if_pos c6).symm.trans hf
            refine lv_iinc (v := (v7 + (1 : Int32))) (lv' := [(7, .int (v7 + (1 : Int32))), (0, .ref (oa (5, 0))), (1, .ref (oa (13, j1))), (2, .int v2), (3, .int v3), (4, .int v4), (5, .int v5), (6, .int v6)]) hx hb dX5_marry_113 hl (k := 7) rfl rfl (by decide) rfl (fun ls hl => ?_)
            refine lv_goto (tgt := 61) hx hb dX5_marry_116 (by decide) ?_
            obtain rfl := Option.some.inj hf
            exact Kl2 _ rfl _ _ _ hW (lv_sub hl [1, 2, 3, 4, 5, 6, 7, 0] rfl)
          · have hf := (if_neg c6).symm.trans hf
            refine lv_iload hx hb dX5_marry_83 (lv_at hl 6 rfl) ?_
            refine lv_iconst (v := 1) hx hb dX5_marry_85 (by decide) ?_
            refine lv_aload_n hx hb dX5_marry_86 rfl (lv_at hl 0 rfl) ?_
            refine gf_X5_22 C hW dX5_marry_87 ?_
            refine lv_iload hx hb dX5_marry_90 (lv_at hl 4 rfl) ?_
            refine lv_iconst (v := 1) hx hb dX5_marry_92 (by decide) ?_
            refine lv_iload hx hb dX5_marry_93 (lv_at hl 5 rfl) ?_
            refine lv_ishl hx hb dX5_marry_95 ?_
            refine lv_iconst (v := 1) hx hb dX5_marry_96 (by decide) ?_
            refine lv_iload hx hb dX5_marry_97 (lv_at hl 7 rfl) ?_
            refine lv_ishl hx hb dX5_marry_99 ?_
            refine lv_ior hx hb dX5_marry_100 ?_
            refine lv_iconst (v := -1) hx hb dX5_marry_101 (by decide) ?_
            refine lv_ixor hx hb dX5_marry_102 ?_
            refine lv_iand hx hb dX5_marry_103 ?_
            obtain ⟨x104, h104, hf⟩ := bd_of hf
            refine r_callV (k := ((11, 11) : Ky)) C hW hl lk_X5_83 (c_X1_at hwf rfl h104) ⟨rfl, rfl⟩ ⟨Nat.le_of_ble_eq_true rfl, Nat.le_of_ble_eq_true rfl⟩ rfl (faB_11 rfl) rfl (As := [.int (v4 &&& ((((1 : Int32) <<< (v5 &&& 31)) ||| ((1 : Int32) <<< (v7 &&& 31))) ^^^ (-1 : Int32)))]) (rest := [.int (1 : Int32), .int v6]) rfl rfl (Nat.le_of_ble_eq_true rfl) dX5_marry_104 ⟨Nat.zero_le _, Nat.zero_le _⟩ (fun H locs hW => ?_)
            show W p l e (rmq 5 118) s m args below meth c H locs 0 0 Q (F0 m 107 ls [.int x104, .int (1 : Int32), .int v6])
            refine lv_iadd hx hb dX5_marry_107 ?_
            refine r_mmax C hl kw_1992 kw_191 kw_140 kw_192 (Nat.le_of_ble_eq_true rfl) (Nat.le_of_ble_eq_true rfl) ⟨Nat.zero_le _, Nat.zero_le _⟩ dX5_marry_108 ?_
            refine lv_istore (lv' := [(6, .int (if v6 < ((1 : Int32) + x104) then ((1 : Int32) + x104) else v6)), (0, .ref (oa (5, 0))), (1, .ref (oa (13, j1))), (2, .int v2), (3, .int v3), (4, .int v4), (5, .int v5), (7, .int v7)]) hx hb dX5_marry_111 hl (by decide) rfl (fun ls hl => ?_)
            refine lv_iinc (v := (v7 + (1 : Int32))) (lv' := [(7, .int (v7 + (1 : Int32))), (6, .int (if v6 < ((1 : Int32) + x104) then ((1 : Int32) + x104) else v6)), (0, .ref (oa (5, 0))), (1, .ref (oa (13, j1))), (2, .int v2), (3, .int v3), (4, .int v4), (5, .int v5)]) hx hb dX5_marry_113 hl (k := 7) rfl rfl (by decide) rfl (fun ls hl => ?_)
            refine lv_goto (tgt := 61) hx hb dX5_marry_116 (by decide) ?_
            obtain rfl := Option.some.inj hf
            exact Kl2 _ rfl _ _ _ hW (lv_sub hl [2, 3, 4, 5, 6, 7, 1, 0] rfl)
      exact L61 μ v4 x32 x50 (x32 + (1 : Int32)) _ _ _ hf hW (lv_sub hl [3, 4, 5, 6, 7, 2, 1, 0] rfl)
  exact L24 x18 ((1 : Int32) <<< ((x2 (13, j1) 1) &&& 31)) (1 : Int32) _ _ _ hf hW (lv_sub hl [2, 3, 4, 1, 0] rfl)
set_option maxHeartbeats 4000000 in
set_option maxRecDepth 100000 in
theorem c_X0_treatOne {l : Launch} {D : va_G} {tc : Nat → ClassId} {ro : Ro} {oa : Ky → Nat} {aa : Nat → Nat} {sh : Sh} {ln : Nat → Nat} {j1 : Nat} {μ : Mm} {v2 v3 v4 : Int32} {res : Int32 × Mm} (hwf : WfS sh) (hj1 : sh 2 j1 = 1) (hf : f_X0_treatOne sh ln j1 μ v2 v3 v4 = some res) : Ct l D tc ro (faB oa aa sh) (feB tc oa aa sh ln) yX0_treatOne cX0_treatOne 7 (some .int) (rmq 5 118) [.ref (oa (4, 0)), .ref (oa (13, j1)), .int v2, .int v3, .int v4] μ (some (.int res.1)) res.2 := by
  refine Ct.of (by decide) (Nat.le_of_ble_eq_true rfl) (fun p e s m args below meth c A C hr hk hW ls hl => ?_)
  have hx := C.1.1
  have hb := C.1.2.1
  obtain ⟨Q, hQ⟩ : ∃ Q, Q = MQ below (Ctq D (faB oa aa sh) (feB tc oa aa sh ln) (some (.int res.1)) res.2 A) args s 0 0 A := ⟨_, rfl⟩
  rw [← hQ]
  have hl : lv_has ls 7 [(0, .ref (oa (4, 0))), (1, .ref (oa (13, j1))), (2, .int v2), (3, .int v3), (4, .int v4)] := hl
  unfold f_X0_treatOne at hf
  refine lv_aload_n hx hb dX0_treatOne_0 rfl (lv_at hl 0 rfl) ?_
  refine gf_X0_9 C hW dX0_treatOne_1 ?_
  refine lv_aload_n hx hb dX0_treatOne_4 rfl (lv_at hl 1 rfl) ?_
  refine lv_iload_n hx hb dX0_treatOne_5 rfl (lv_at hl 2 rfl) ?_
  refine lv_iload_n hx hb dX0_treatOne_6 rfl (lv_at hl 3 rfl) ?_
  obtain ⟨x7, h7, hf⟩ := bd_of hf
  refine r_callV (k := ((3, 0) : Ky)) C hW hl lk_X0_15 (c_X4_meet hwf hj1 h7) ⟨rfl, rfl⟩ ⟨Nat.le_of_ble_eq_true rfl, Nat.le_of_ble_eq_true rfl⟩ rfl rfl rfl (As := [.ref (oa (13, j1)), .int v2, .int v3]) (rest := []) rfl rfl (Nat.le_of_ble_eq_true rfl) dX0_treatOne_7 ⟨Nat.zero_le _, Nat.zero_le _⟩ (fun H locs hW => ?_)
  show W p l e (rmq 5 118) s m args below meth c H locs 0 0 Q (F0 m 10 ls [])
  refine lv_aload_n hx hb dX0_treatOne_10 rfl (lv_at hl 0 rfl) ?_
  refine gf_X0_9 C hW dX0_treatOne_11 ?_
  refine lv_aload_n hx hb dX0_treatOne_14 rfl (lv_at hl 1 rfl) ?_
  refine gf_X0_21 C hW hj1 dX0_treatOne_15 ?_
  obtain ⟨x18, h18, hf⟩ := bd_of hf
  refine r_callV (k := ((3, 0) : Ky)) C hW hl lk_X0_27 (c_X4_mannerIn hwf h18) ⟨rfl, rfl⟩ ⟨Nat.le_of_ble_eq_true rfl, Nat.le_of_ble_eq_true rfl⟩ rfl rfl rfl (As := [.int (x7 (13, j1) 3)]) (rest := []) rfl rfl (Nat.le_of_ble_eq_true rfl) dX0_treatOne_18 ⟨Nat.zero_le _, Nat.zero_le _⟩ (fun H locs hW => ?_)
  show W p l e (rmq 5 118) s m args below meth c H locs 0 0 Q (F0 m 21 ls [.int x18])
  refine lv_istore (lv' := [(5, .int x18), (0, .ref (oa (4, 0))), (1, .ref (oa (13, j1))), (2, .int v2), (3, .int v3), (4, .int v4)]) hx hb dX0_treatOne_21 hl (by decide) rfl (fun ls hl => ?_)
  refine lv_iconst (v := 0) hx hb dX0_treatOne_23 (by decide) ?_
  refine lv_istore (lv' := [(6, .int (0 : Int32)), (5, .int x18), (0, .ref (oa (4, 0))), (1, .ref (oa (13, j1))), (2, .int v2), (3, .int v3), (4, .int v4)]) hx hb dX0_treatOne_24 hl (by decide) rfl (fun ls hl => ?_)
  have L26 : ∀ (μ : Mm) (v5 v6 : Int32) (H : Heap) (locs : List Loc) (ls : Array Slot), Wh (fun z : Mm × Int32 => f_X0_treatOne_L26 sh ln j1 v2 v3 v4 v5 z.1 z.2) (μ, v6) = some res → Wd D (faB oa aa sh) (feB tc oa aa sh ln) A s.heap μ H locs → lv_has ls 7 [(0, .ref (oa (4, 0))), (1, .ref (oa (13, j1))), (2, .int v2), (3, .int v3), (4, .int v4), (5, .int v5), (6, .int v6)] → W p l e (rmq 5 118) s m args below meth c H locs 0 0 Q (F0 m 26 ls []) := by
    intro μ v5 v6 H locs ls hf hW hl
    refine Wh_rule hf (fun z : Mm × Int32 => ∀ (H : Heap) (locs : List Loc) (ls : Array Slot), Wd D (faB oa aa sh) (feB tc oa aa sh ln) A s.heap z.1 H locs → lv_has ls 7 [(0, .ref (oa (4, 0))), (1, .ref (oa (13, j1))), (2, .int v2), (3, .int v3), (4, .int v4), (5, .int v5), (6, .int z.2)] → W p l e (rmq 5 118) s m args below meth c H locs 0 0 Q (F0 m 26 ls [])) (fun z o1 hf Kl1 Kr1 => ?_) _ _ _ hW hl
    obtain ⟨μ, v6⟩ := z
    intro H locs ls hW hl
    have hf : f_X0_treatOne_L26 sh ln j1 v2 v3 v4 v5 μ v6 = some o1 := hf
    unfold f_X0_treatOne_L26 at hf
    have hW : Wd D (faB oa aa sh) (feB tc oa aa sh ln) A s.heap μ H locs := hW
    have hl : lv_has ls 7 [(0, .ref (oa (4, 0))), (1, .ref (oa (13, j1))), (2, .int v2), (3, .int v3), (4, .int v4), (5, .int v5), (6, .int v6)] := hl
    refine lv_iload hx hb dX0_treatOne_26 (lv_at hl 6 rfl) ?_
    refine lv_aload_n hx hb dX0_treatOne_28 rfl (lv_at hl 1 rfl) ?_
    refine gf_X0_31 C hW hj1 dX0_treatOne_29 ?_
    refine lv_icmp_ge (tgt := 62) hx hb dX0_treatOne_32 (by decide) (fun c1 => ?_) (fun c1 => ?_)
    · have hf := (if_pos c1).symm.trans hf
      obtain ⟨x9003, hf, hx9003⟩ := map_of hf
      have e9003 := (Kr1 _ hx9003.symm).symm
      subst e9003
      refine lv_aload_n hx hb dX0_treatOne_62 rfl (lv_at hl 1 rfl) ?_
      refine lv_iload hx hb dX0_treatOne_63 (lv_at hl 4 rfl) ?_
      refine lv_if_eq (tgt := 72) hx hb dX0_treatOne_65 (by decide) (fun c2 => ?_) (fun c2 => ?_)
      · have hf := (if_pos c2).symm.trans hf
        refine lv_iconst (v := 0) hx hb dX0_treatOne_72 (by decide) ?_
        refine lv_iload_n hx hb dX0_treatOne_73 rfl (lv_at hl 2 rfl) ?_
        refine lv_iload_n hx hb dX0_treatOne_74 rfl (lv_at hl 3 rfl) ?_
        refine lv_iload hx hb dX0_treatOne_75 (lv_at hl 5 rfl) ?_
        refine lv_aload_n hx hb dX0_treatOne_77 rfl (lv_at hl 0 rfl) ?_
        refine gf_X0_9 C hW dX0_treatOne_78 ?_
        refine lv_aload_n hx hb dX0_treatOne_81 rfl (lv_at hl 1 rfl) ?_
        refine lv_aload_n hx hb dX0_treatOne_82 rfl (lv_at hl 1 rfl) ?_
        refine gf_X0_38 C hW hj1 dX0_treatOne_83 ?_
        obtain ⟨x86, h86, hf⟩ := bd_of hf
        refine r_callV (k := ((3, 0) : Ky)) C hW hl lk_X0_42 (c_X4_sureBits hwf hj1 (cex_st hj1 (by decide)) h86) ⟨rfl, rfl⟩ ⟨Nat.le_of_ble_eq_true rfl, Nat.le_of_ble_eq_true rfl⟩ rfl rfl rfl (As := [.ref (oa (13, j1)), .ref (oa (11, 15 + 5 * j1 + 2))]) (rest := [.int v5, .int v3, .int v2, .int (0 : Int32), .ref (oa (13, j1))]) rfl rfl (Nat.le_of_ble_eq_true rfl) dX0_treatOne_86 ⟨Nat.zero_le _, Nat.zero_le _⟩ (fun H locs hW => ?_)
        show W p l e (rmq 5 118) s m args below meth c H locs 0 0 Q (F0 m 89 ls [.int x86, .int v5, .int v3, .int v2, .int (0 : Int32), .ref (oa (13, j1))])
        obtain ⟨x89, h89, hf⟩ := bd_of hf
        refine r_callV (k := ((13, j1) : Ky)) C hW hl lk_X0_46 (c_X6_note hwf hj1 h89) ⟨rfl, rfl⟩ ⟨Nat.le_of_ble_eq_true rfl, Nat.le_of_ble_eq_true rfl⟩ rfl (faB_13 hj1) rfl (As := [.int (0 : Int32), .int v2, .int v3, .int v5, .int x86]) (rest := []) rfl rfl (Nat.le_of_ble_eq_true rfl) dX0_treatOne_89 ⟨Nat.zero_le _, Nat.zero_le _⟩ (fun H locs hW => ?_)
        show W p l e (rmq 5 118) s m args below meth c H locs 0 0 Q (F0 m 92 ls [])
        refine lv_iload hx hb dX0_treatOne_92 (lv_at hl 5 rfl) ?_
        obtain rfl := Option.some.inj hf
        rw [hQ]
        exact r_iret C hr hk hW rfl rfl dX0_treatOne_94
      · have hf := (if_neg c2).symm.trans hf
        refine lv_iconst (v := 1) hx hb dX0_treatOne_68 (by decide) ?_
        refine lv_goto (tgt := 73) hx hb dX0_treatOne_69 (by decide) ?_
        refine lv_iload_n hx hb dX0_treatOne_73 rfl (lv_at hl 2 rfl) ?_
        refine lv_iload_n hx hb dX0_treatOne_74 rfl (lv_at hl 3 rfl) ?_
        refine lv_iload hx hb dX0_treatOne_75 (lv_at hl 5 rfl) ?_
        refine lv_aload_n hx hb dX0_treatOne_77 rfl (lv_at hl 0 rfl) ?_
        refine gf_X0_9 C hW dX0_treatOne_78 ?_
        refine lv_aload_n hx hb dX0_treatOne_81 rfl (lv_at hl 1 rfl) ?_
        refine lv_aload_n hx hb dX0_treatOne_82 rfl (lv_at hl 1 rfl) ?_
        refine gf_X0_38 C hW hj1 dX0_treatOne_83 ?_
        obtain ⟨x86, h86, hf⟩ := bd_of hf
        refine r_callV (k := ((3, 0) : Ky)) C hW hl lk_X0_42 (c_X4_sureBits hwf hj1 (cex_st hj1 (by decide)) h86) ⟨rfl, rfl⟩ ⟨Nat.le_of_ble_eq_true rfl, Nat.le_of_ble_eq_true rfl⟩ rfl rfl rfl (As := [.ref (oa (13, j1)), .ref (oa (11, 15 + 5 * j1 + 2))]) (rest := [.int v5, .int v3, .int v2, .int (1 : Int32), .ref (oa (13, j1))]) rfl rfl (Nat.le_of_ble_eq_true rfl) dX0_treatOne_86 ⟨Nat.zero_le _, Nat.zero_le _⟩ (fun H locs hW => ?_)
        show W p l e (rmq 5 118) s m args below meth c H locs 0 0 Q (F0 m 89 ls [.int x86, .int v5, .int v3, .int v2, .int (1 : Int32), .ref (oa (13, j1))])
        obtain ⟨x89, h89, hf⟩ := bd_of hf
        refine r_callV (k := ((13, j1) : Ky)) C hW hl lk_X0_46 (c_X6_note hwf hj1 h89) ⟨rfl, rfl⟩ ⟨Nat.le_of_ble_eq_true rfl, Nat.le_of_ble_eq_true rfl⟩ rfl (faB_13 hj1) rfl (As := [.int (1 : Int32), .int v2, .int v3, .int v5, .int x86]) (rest := []) rfl rfl (Nat.le_of_ble_eq_true rfl) dX0_treatOne_89 ⟨Nat.zero_le _, Nat.zero_le _⟩ (fun H locs hW => ?_)
        show W p l e (rmq 5 118) s m args below meth c H locs 0 0 Q (F0 m 92 ls [])
        refine lv_iload hx hb dX0_treatOne_92 (lv_at hl 5 rfl) ?_
        obtain rfl := Option.some.inj hf
        rw [hQ]
        exact r_iret C hr hk hW rfl rfl dX0_treatOne_94
    · have hf := (if_neg c1).symm.trans hf
      refine lv_iload hx hb dX0_treatOne_35 (lv_at hl 4 rfl) ?_
      refine lv_if_ne (tgt := 46) hx hb dX0_treatOne_37 (by decide) (fun c4 => ?_) (fun c4 => ?_)
      · have hf := (if_neg c4).symm.trans hf
        refine lv_aload_n hx hb dX0_treatOne_46 rfl (lv_at hl 0 rfl) ?_
        refine gf_X0_9 C hW dX0_treatOne_47 ?_
        refine lv_aload_n hx hb dX0_treatOne_50 rfl (lv_at hl 1 rfl) ?_
        refine lv_iload hx hb dX0_treatOne_51 (lv_at hl 6 rfl) ?_
        obtain ⟨x53, h53, hf⟩ := bd_of hf
        refine r_callV (k := ((3, 0) : Ky)) C hW hl lk_X0_34 (c_X4_split hwf hj1 h53) ⟨rfl, rfl⟩ ⟨Nat.le_of_ble_eq_true rfl, Nat.le_of_ble_eq_true rfl⟩ rfl rfl rfl (As := [.ref (oa (13, j1)), .int v6]) (rest := []) rfl rfl (Nat.le_of_ble_eq_true rfl) dX0_treatOne_53 ⟨Nat.zero_le _, Nat.zero_le _⟩ (fun H locs hW => ?_)
        show W p l e (rmq 5 118) s m args below meth c H locs 0 0 Q (F0 m 56 ls [])
        refine lv_iinc (v := (v6 + (1 : Int32))) (lv' := [(6, .int (v6 + (1 : Int32))), (0, .ref (oa (4, 0))), (1, .ref (oa (13, j1))), (2, .int v2), (3, .int v3), (4, .int v4), (5, .int v5)]) hx hb dX0_treatOne_56 hl (k := 6) rfl rfl (by decide) rfl (fun ls hl => ?_)
        refine lv_goto (tgt := 26) hx hb dX0_treatOne_59 (by decide) ?_
        obtain rfl := Option.some.inj hf
        exact Kl1 _ rfl _ _ _ hW (lv_sub hl [1, 2, 3, 4, 5, 6, 0] rfl)
      · have hf := (if_pos c4).symm.trans hf
        refine lv_iload hx hb dX0_treatOne_40 (lv_at hl 6 rfl) ?_
        refine lv_iload_n hx hb dX0_treatOne_42 rfl (lv_at hl 3 rfl) ?_
        refine lv_icmp_ne (tgt := 56) hx hb dX0_treatOne_43 (by decide) (fun c5 => ?_) (fun c5 => ?_)
        · have hf := (if_neg c5).symm.trans hf
          refine lv_iinc (v := (v6 + (1 : Int32))) (lv' := [(6, .int (v6 + (1 : Int32))), (0, .ref (oa (4, 0))), (1, .ref (oa (13, j1))), (2, .int v2), (3, .int v3), (4, .int v4), (5, .int v5)]) hx hb dX0_treatOne_56 hl (k := 6) rfl rfl (by decide) rfl (fun ls hl => ?_)
          refine lv_goto (tgt := 26) hx hb dX0_treatOne_59 (by decide) ?_
          obtain rfl := Option.some.inj hf
          exact Kl1 _ rfl _ _ _ hW (lv_sub hl [1, 2, 3, 4, 5, 6, 0] rfl)
        · have hf := (if_pos c5).symm.trans hf
          refine lv_aload_n hx hb dX0_treatOne_46 rfl (lv_at hl 0 rfl) ?_
          refine gf_X0_9 C hW dX0_treatOne_47 ?_
          refine lv_aload_n hx hb dX0_treatOne_50 rfl (lv_at hl 1 rfl) ?_
          refine lv_iload hx hb dX0_treatOne_51 (lv_at hl 6 rfl) ?_
          obtain ⟨x53, h53, hf⟩ := bd_of hf
          refine r_callV (k := ((3, 0) : Ky)) C hW hl lk_X0_34 (c_X4_split hwf hj1 h53) ⟨rfl, rfl⟩ ⟨Nat.le_of_ble_eq_true rfl, Nat.le_of_ble_eq_true rfl⟩ rfl rfl rfl (As := [.ref (oa (13, j1)), .int v6]) (rest := []) rfl rfl (Nat.le_of_ble_eq_true rfl) dX0_treatOne_53 ⟨Nat.zero_le _, Nat.zero_le _⟩ (fun H locs hW => ?_)
          show W p l e (rmq 5 118) s m args below meth c H locs 0 0 Q (F0 m 56 ls [])
          refine lv_iinc (v := (v6 + (1 : Int32))) (lv' := [(6, .int (v6 + (1 : Int32))), (0, .ref (oa (4, 0))), (1, .ref (oa (13, j1))), (2, .int v2), (3, .int v3), (4, .int v4), (5, .int v5)]) hx hb dX0_treatOne_56 hl (k := 6) rfl rfl (by decide) rfl (fun ls hl => ?_)
          refine lv_goto (tgt := 26) hx hb dX0_treatOne_59 (by decide) ?_
          obtain rfl := Option.some.inj hf
          exact Kl1 _ rfl _ _ _ hW (lv_sub hl [1, 2, 3, 4, 5, 6, 0] rfl)
  exact L26 x7 x18 (0 : Int32) _ _ _ hf hW (lv_sub hl [2, 3, 4, 5, 6, 1, 0] rfl)
set_option maxHeartbeats 4000000 in
set_option maxRecDepth 100000 in
theorem c_X0_turnTo {l : Launch} {D : va_G} {tc : Nat → ClassId} {ro : Ro} {oa : Ky → Nat} {aa : Nat → Nat} {sh : Sh} {ln : Nat → Nat} {j1 : Nat} {μ : Mm} {v2 v3 : Int32} {res : Int32 × Mm} (hwf : WfS sh) (hj1 : sh 2 j1 = 1) (hf : f_X0_turnTo sh ln j1 μ v2 v3 = some res) : Ct l D tc ro (faB oa aa sh) (feB tc oa aa sh ln) yX0_turnTo cX0_turnTo 5 (some .int) (rmq 5 117) [.ref (oa (4, 0)), .ref (oa (13, j1)), .int v2, .int v3] μ (some (.int res.1)) res.2 := by
  refine Ct.of (by decide) (Nat.le_of_ble_eq_true rfl) (fun p e s m args below meth c A C hr hk hW ls hl => ?_)
  have hx := C.1.1
  have hb := C.1.2.1
  obtain ⟨Q, hQ⟩ : ∃ Q, Q = MQ below (Ctq D (faB oa aa sh) (feB tc oa aa sh ln) (some (.int res.1)) res.2 A) args s 0 0 A := ⟨_, rfl⟩
  rw [← hQ]
  have hl : lv_has ls 5 [(0, .ref (oa (4, 0))), (1, .ref (oa (13, j1))), (2, .int v2), (3, .int v3)] := hl
  unfold f_X0_turnTo at hf
  refine lv_aload_n hx hb dX0_turnTo_0 rfl (lv_at hl 0 rfl) ?_
  refine gf_X0_9 C hW dX0_turnTo_1 ?_
  refine lv_aload_n hx hb dX0_turnTo_4 rfl (lv_at hl 1 rfl) ?_
  refine lv_iload_n hx hb dX0_turnTo_5 rfl (lv_at hl 2 rfl) ?_
  refine lv_iload_n hx hb dX0_turnTo_6 rfl (lv_at hl 3 rfl) ?_
  obtain ⟨x7, h7, hf⟩ := bd_of hf
  refine r_callV (k := ((3, 0) : Ky)) C hW hl lk_X0_50 (c_X4_look hwf hj1 h7) ⟨rfl, rfl⟩ ⟨Nat.le_of_ble_eq_true rfl, Nat.le_of_ble_eq_true rfl⟩ rfl rfl rfl (As := [.ref (oa (13, j1)), .int v2, .int v3]) (rest := []) rfl rfl (Nat.le_of_ble_eq_true rfl) dX0_turnTo_7 ⟨Nat.zero_le _, Nat.zero_le _⟩ (fun H locs hW => ?_)
  show W p l e (rmq 5 117) s m args below meth c H locs 0 0 Q (F0 m 10 ls [])
  refine lv_aload_n hx hb dX0_turnTo_10 rfl (lv_at hl 1 rfl) ?_
  refine lv_aload_n hx hb dX0_turnTo_11 rfl (lv_at hl 1 rfl) ?_
  refine gf_X0_21 C hW hj1 dX0_turnTo_12 ?_
  refine lv_iload_n hx hb dX0_turnTo_15 rfl (lv_at hl 3 rfl) ?_
  obtain ⟨x16, h16, hf⟩ := bd_of hf
  refine r_callV (k := ((13, j1) : Ky)) C hW hl lk_X0_53 (c_X6_figure hwf hj1 h16) ⟨rfl, rfl⟩ ⟨Nat.le_of_ble_eq_true rfl, Nat.le_of_ble_eq_true rfl⟩ rfl (faB_13 hj1) rfl (As := [.int (x7 (13, j1) 3), .int v3]) (rest := []) rfl rfl (Nat.le_of_ble_eq_true rfl) dX0_turnTo_16 ⟨Nat.zero_le _, Nat.zero_le _⟩ (fun H locs hW => ?_)
  show W p l e (rmq 5 117) s m args below meth c H locs 0 0 Q (F0 m 19 ls [.int x16])
  refine lv_istore (lv' := [(4, .int x16), (0, .ref (oa (4, 0))), (1, .ref (oa (13, j1))), (2, .int v2), (3, .int v3)]) hx hb dX0_turnTo_19 hl (by decide) rfl (fun ls hl => ?_)
  refine lv_aload_n hx hb dX0_turnTo_21 rfl (lv_at hl 2 rfl) ?_
  refine lv_iconst (v := 2) hx hb dX0_turnTo_22 (by decide) ?_
  refine lv_iload_n hx hb dX0_turnTo_23 rfl (lv_at hl 3 rfl) ?_
  refine lv_iload_n hx hb dX0_turnTo_24 rfl (lv_at hl 4 rfl) ?_
  refine lv_iload hx hb dX0_turnTo_25 (lv_at hl 0 rfl) ?_
  refine lv_aload_n hx hb dX0_turnTo_27 rfl (lv_at hl 1 rfl) ?_
  refine gf_X0_9 C hW dX0_turnTo_28 ?_
  refine lv_aload_n hx hb dX0_turnTo_31 rfl (lv_at hl 2 rfl) ?_
  refine lv_aload_n hx hb dX0_turnTo_32 rfl (lv_at hl 2 rfl) ?_
  refine gf_X0_38 C hW hj1 dX0_turnTo_33 ?_
  obtain ⟨x36, h36, hf⟩ := bd_of hf
  refine r_callV (k := ((3, 0) : Ky)) C hW hl lk_X0_42 (c_X4_sureBits hwf hj1 (cex_st hj1 (by decide)) h36) ⟨rfl, rfl⟩ ⟨Nat.le_of_ble_eq_true rfl, Nat.le_of_ble_eq_true rfl⟩ rfl rfl rfl (As := [.ref (oa (13, j1)), .ref (oa (11, 15 + 5 * j1 + 2))]) (rest := [.int x16, .int v3, .int v2, .int (2 : Int32), .ref (oa (13, j1))]) rfl rfl (Nat.le_of_ble_eq_true rfl) dX0_turnTo_36 ⟨Nat.zero_le _, Nat.zero_le _⟩ (fun H locs hW => ?_)
  show W p l e (rmq 5 117) s m args below meth c H locs 0 0 Q (F0 m 39 ls [.int x36, .int x16, .int v3, .int v2, .int (2 : Int32), .ref (oa (13, j1))])
  obtain ⟨x39, h39, hf⟩ := bd_of hf
  refine r_callV (k := ((13, j1) : Ky)) C hW hl lk_X0_46 (c_X6_note hwf hj1 h39) ⟨rfl, rfl⟩ ⟨Nat.le_of_ble_eq_true rfl, Nat.le_of_ble_eq_true rfl⟩ rfl (faB_13 hj1) rfl (As := [.int (2 : Int32), .int v2, .int v3, .int x16, .int x36]) (rest := []) rfl rfl (Nat.le_of_ble_eq_true rfl) dX0_turnTo_39 ⟨Nat.zero_le _, Nat.zero_le _⟩ (fun H locs hW => ?_)
  show W p l e (rmq 5 117) s m args below meth c H locs 0 0 Q (F0 m 42 ls [])
  refine lv_iload hx hb dX0_turnTo_42 (lv_at hl 0 rfl) ?_
  obtain rfl := Option.some.inj hf
  rw [hQ]
  exact r_iret C hr hk hW rfl rfl dX0_turnTo_44
set_option maxHeartbeats 4000000 in
set_option maxRecDepth 100000 in
theorem c_X0_heardByAll {l : Launch} {D : va_G} {tc : Nat → ClassId} {ro : Ro} {oa : Ky → Nat} {aa : Nat → Nat} {sh : Sh} {ln : Nat → Nat} {j1 : Nat} {μ : Mm} {res : Int32 × Mm} (hwf : WfS sh) (hj1 : sh 2 j1 = 1) (hf : f_X0_heardByAll sh ln j1 μ = some res) : Ct l D tc ro (faB oa aa sh) (feB tc oa aa sh ln) yX0_heardByAll cX0_heardByAll 2 (some .int) (rmq 2 47) [.ref (oa (4, 0)), .ref (oa (13, j1))] μ (some (.int res.1)) res.2 := by
  refine Ct.of (by decide) (Nat.le_of_ble_eq_true rfl) (fun p e s m args below meth c A C hr hk hW ls hl => ?_)
  have hx := C.1.1
  have hb := C.1.2.1
  obtain ⟨Q, hQ⟩ : ∃ Q, Q = MQ below (Ctq D (faB oa aa sh) (feB tc oa aa sh ln) (some (.int res.1)) res.2 A) args s 0 0 A := ⟨_, rfl⟩
  rw [← hQ]
  have hl : lv_has ls 2 [(0, .ref (oa (4, 0))), (1, .ref (oa (13, j1)))] := hl
  unfold f_X0_heardByAll at hf
  refine lv_aload_n hx hb dX0_heardByAll_0 rfl (lv_at hl 0 rfl) ?_
  refine gf_X0_9 C hW dX0_heardByAll_1 ?_
  refine lv_aload_n hx hb dX0_heardByAll_4 rfl (lv_at hl 1 rfl) ?_
  refine lv_aload_n hx hb dX0_heardByAll_5 rfl (lv_at hl 1 rfl) ?_
  refine gf_X0_38 C hW hj1 dX0_heardByAll_6 ?_
  obtain ⟨x9, h9, hf⟩ := bd_of hf
  refine r_callV (k := ((3, 0) : Ky)) C hW hl lk_X0_97 (c_X4_heed hwf hj1 (cex_st hj1 (by decide)) h9) ⟨rfl, rfl⟩ ⟨Nat.le_of_ble_eq_true rfl, Nat.le_of_ble_eq_true rfl⟩ rfl rfl rfl (As := [.ref (oa (13, j1)), .ref (oa (11, 15 + 5 * j1 + 2))]) (rest := []) rfl rfl (Nat.le_of_ble_eq_true rfl) dX0_heardByAll_9 ⟨Nat.zero_le _, Nat.zero_le _⟩ (fun H locs hW => ?_)
  show W p l e (rmq 2 47) s m args below meth c H locs 0 0 Q (F0 m 12 ls [.int x9.1])
  refine lv_pop hx hb dX0_heardByAll_12 rfl ?_
  refine lv_aload_n hx hb dX0_heardByAll_13 rfl (lv_at hl 0 rfl) ?_
  refine gf_X0_9 C hW dX0_heardByAll_14 ?_
  refine lv_aload_n hx hb dX0_heardByAll_17 rfl (lv_at hl 1 rfl) ?_
  refine gf_X0_21 C hW hj1 dX0_heardByAll_18 ?_
  obtain ⟨x21, h21, hf⟩ := bd_of hf
  refine r_callV (k := ((3, 0) : Ky)) C hW hl lk_X0_101 (c_X4_saidIn hwf h21) ⟨rfl, rfl⟩ ⟨Nat.le_of_ble_eq_true rfl, Nat.le_of_ble_eq_true rfl⟩ rfl rfl rfl (As := [.int (x9.2 (13, j1) 3)]) (rest := []) rfl rfl (Nat.le_of_ble_eq_true rfl) dX0_heardByAll_21 ⟨Nat.zero_le _, Nat.zero_le _⟩ (fun H locs hW => ?_)
  show W p l e (rmq 2 47) s m args below meth c H locs 0 0 Q (F0 m 24 ls [.int x21])
  obtain rfl := Option.some.inj hf
  rw [hQ]
  exact r_iret C hr hk hW rfl rfl dX0_heardByAll_24
set_option maxHeartbeats 4000000 in
set_option maxRecDepth 100000 in
theorem c_X0_askOne {l : Launch} {D : va_G} {tc : Nat → ClassId} {ro : Ro} {oa : Ky → Nat} {aa : Nat → Nat} {sh : Sh} {ln : Nat → Nat} {j1 : Nat} {μ : Mm} {v2 : Int32} {res : Int32 × Mm} (hwf : WfS sh) (hj1 : sh 2 j1 = 1) (hf : f_X0_askOne sh ln j1 μ v2 = some res) : Ct l D tc ro (faB oa aa sh) (feB tc oa aa sh ln) yX0_askOne cX0_askOne 4 (some .boolean) (rmq 5 116) [.ref (oa (4, 0)), .ref (oa (13, j1)), .int v2] μ (some (.int res.1)) res.2 := by
  refine Ct.of (by decide) (Nat.le_of_ble_eq_true rfl) (fun p e s m args below meth c A C hr hk hW ls hl => ?_)
  have hx := C.1.1
  have hb := C.1.2.1
  obtain ⟨Q, hQ⟩ : ∃ Q, Q = MQ below (Ctq D (faB oa aa sh) (feB tc oa aa sh ln) (some (.int res.1)) res.2 A) args s 0 0 A := ⟨_, rfl⟩
  rw [← hQ]
  have hl : lv_has ls 4 [(0, .ref (oa (4, 0))), (1, .ref (oa (13, j1))), (2, .int v2)] := hl
  unfold f_X0_askOne at hf
  refine lv_aload_n hx hb dX0_askOne_0 rfl (lv_at hl 0 rfl) ?_
  refine gf_X0_9 C hW dX0_askOne_1 ?_
  refine lv_aload_n hx hb dX0_askOne_4 rfl (lv_at hl 1 rfl) ?_
  refine lv_iload_n hx hb dX0_askOne_5 rfl (lv_at hl 2 rfl) ?_
  obtain ⟨x6, h6, hf⟩ := bd_of hf
  refine r_callV (k := ((3, 0) : Ky)) C hW hl lk_X0_57 (c_X4_sayWhetherSure hwf hj1 h6) ⟨rfl, rfl⟩ ⟨Nat.le_of_ble_eq_true rfl, Nat.le_of_ble_eq_true rfl⟩ rfl rfl rfl (As := [.ref (oa (13, j1)), .int v2]) (rest := []) rfl rfl (Nat.le_of_ble_eq_true rfl) dX0_askOne_6 ⟨Nat.zero_le _, Nat.zero_le _⟩ (fun H locs hW => ?_)
  show W p l e (rmq 5 116) s m args below meth c H locs 0 0 Q (F0 m 9 ls [])
  refine lv_aload_n hx hb dX0_askOne_9 rfl (lv_at hl 0 rfl) ?_
  refine lv_aload_n hx hb dX0_askOne_10 rfl (lv_at hl 1 rfl) ?_
  obtain ⟨x11, h11, hf⟩ := bd_of hf
  refine r_callV (k := ((4, 0) : Ky)) C hW hl lk_X0_60 (c_X0_heardByAll hwf hj1 h11) ⟨rfl, rfl⟩ ⟨Nat.le_of_ble_eq_true rfl, Nat.le_of_ble_eq_true rfl⟩ rfl rfl rfl (As := [.ref (oa (13, j1))]) (rest := []) rfl rfl (Nat.le_of_ble_eq_true rfl) dX0_askOne_11 ⟨Nat.zero_le _, Nat.zero_le _⟩ (fun H locs hW => ?_)
  show W p l e (rmq 5 116) s m args below meth c H locs 0 0 Q (F0 m 14 ls [.int x11.1])
  refine lv_istore_n (lv' := [(3, .int x11.1), (0, .ref (oa (4, 0))), (1, .ref (oa (13, j1))), (2, .int v2)]) hx hb dX0_askOne_14 rfl hl (by decide) rfl (fun ls hl => ?_)
  refine lv_aload_n hx hb dX0_askOne_15 rfl (lv_at hl 2 rfl) ?_
  refine lv_iconst (v := 3) hx hb dX0_askOne_16 (by decide) ?_
  refine lv_iload_n hx hb dX0_askOne_17 rfl (lv_at hl 3 rfl) ?_
  refine lv_iconst (v := -1) hx hb dX0_askOne_18 (by decide) ?_
  refine lv_iload_n hx hb dX0_askOne_19 rfl (lv_at hl 0 rfl) ?_
  refine lv_aload_n hx hb dX0_askOne_20 rfl (lv_at hl 1 rfl) ?_
  refine gf_X0_9 C hW dX0_askOne_21 ?_
  refine lv_aload_n hx hb dX0_askOne_24 rfl (lv_at hl 2 rfl) ?_
  refine lv_aload_n hx hb dX0_askOne_25 rfl (lv_at hl 2 rfl) ?_
  refine gf_X0_38 C hW hj1 dX0_askOne_26 ?_
  obtain ⟨x29, h29, hf⟩ := bd_of hf
  refine r_callV (k := ((3, 0) : Ky)) C hW hl lk_X0_42 (c_X4_sureBits hwf hj1 (cex_st hj1 (by decide)) h29) ⟨rfl, rfl⟩ ⟨Nat.le_of_ble_eq_true rfl, Nat.le_of_ble_eq_true rfl⟩ rfl rfl rfl (As := [.ref (oa (13, j1)), .ref (oa (11, 15 + 5 * j1 + 2))]) (rest := [.int x11.1, .int (-1 : Int32), .int v2, .int (3 : Int32), .ref (oa (13, j1))]) rfl rfl (Nat.le_of_ble_eq_true rfl) dX0_askOne_29 ⟨Nat.zero_le _, Nat.zero_le _⟩ (fun H locs hW => ?_)
  show W p l e (rmq 5 116) s m args below meth c H locs 0 0 Q (F0 m 32 ls [.int x29, .int x11.1, .int (-1 : Int32), .int v2, .int (3 : Int32), .ref (oa (13, j1))])
  obtain ⟨x32, h32, hf⟩ := bd_of hf
  refine r_callV (k := ((13, j1) : Ky)) C hW hl lk_X0_46 (c_X6_note hwf hj1 h32) ⟨rfl, rfl⟩ ⟨Nat.le_of_ble_eq_true rfl, Nat.le_of_ble_eq_true rfl⟩ rfl (faB_13 hj1) rfl (As := [.int (3 : Int32), .int v2, .int (-1 : Int32), .int x11.1, .int x29]) (rest := []) rfl rfl (Nat.le_of_ble_eq_true rfl) dX0_askOne_32 ⟨Nat.zero_le _, Nat.zero_le _⟩ (fun H locs hW => ?_)
  show W p l e (rmq 5 116) s m args below meth c H locs 0 0 Q (F0 m 35 ls [])
  refine lv_iload_n hx hb dX0_askOne_35 rfl (lv_at hl 0 rfl) ?_
  refine lv_iconst (v := 1) hx hb dX0_askOne_36 (by decide) ?_
  refine lv_icmp_ne (tgt := 44) hx hb dX0_askOne_37 (by decide) (fun c1 => ?_) (fun c1 => ?_)
  · have hf := (if_neg c1).symm.trans hf
    refine lv_iconst (v := 0) hx hb dX0_askOne_44 (by decide) ?_
    obtain rfl := Option.some.inj hf
    rw [hQ]
    exact r_zret C hr hk hW (Or.inl rfl) rfl rfl dX0_askOne_45
  · have hf := (if_pos c1).symm.trans hf
    refine lv_iconst (v := 1) hx hb dX0_askOne_40 (by decide) ?_
    refine lv_goto (tgt := 45) hx hb dX0_askOne_41 (by decide) ?_
    obtain rfl := Option.some.inj hf
    rw [hQ]
    exact r_zret C hr hk hW (Or.inr rfl) rfl rfl dX0_askOne_45
set_option maxHeartbeats 4000000 in
set_option maxRecDepth 100000 in
theorem c_X0_askAll {l : Launch} {D : va_G} {tc : Nat → ClassId} {ro : Ro} {oa : Ky → Nat} {aa : Nat → Nat} {sh : Sh} {ln : Nat → Nat} {j1 : Nat} {μ : Mm} {res : Int32 × Mm} (hwf : WfS sh) (hj1 : sh 2 j1 = 1) (hf : f_X0_askAll sh ln j1 μ = some res) : Ct l D tc ro (faB oa aa sh) (feB tc oa aa sh ln) yX0_askAll cX0_askAll 3 (some .int) (rmq 5 117) [.ref (oa (4, 0)), .ref (oa (13, j1))] μ (some (.int res.1)) res.2 := by
  refine Ct.of (by decide) (Nat.le_of_ble_eq_true rfl) (fun p e s m args below meth c A C hr hk hW ls hl => ?_)
  have hx := C.1.1
  have hb := C.1.2.1
  obtain ⟨Q, hQ⟩ : ∃ Q, Q = MQ below (Ctq D (faB oa aa sh) (feB tc oa aa sh ln) (some (.int res.1)) res.2 A) args s 0 0 A := ⟨_, rfl⟩
  rw [← hQ]
  have hl : lv_has ls 3 [(0, .ref (oa (4, 0))), (1, .ref (oa (13, j1)))] := hl
  unfold f_X0_askAll at hf
  refine lv_aload_n hx hb dX0_askAll_0 rfl (lv_at hl 0 rfl) ?_
  refine gf_X0_9 C hW dX0_askAll_1 ?_
  refine lv_aload_n hx hb dX0_askAll_4 rfl (lv_at hl 1 rfl) ?_
  refine lv_aload_n hx hb dX0_askAll_5 rfl (lv_at hl 1 rfl) ?_
  refine gf_X0_38 C hW hj1 dX0_askAll_6 ?_
  obtain ⟨x9, h9, hf⟩ := bd_of hf
  refine r_callV (k := ((3, 0) : Ky)) C hW hl lk_X0_64 (c_X4_sayWhoIsSure hwf hj1 (cex_st hj1 (by decide)) h9) ⟨rfl, rfl⟩ ⟨Nat.le_of_ble_eq_true rfl, Nat.le_of_ble_eq_true rfl⟩ rfl rfl rfl (As := [.ref (oa (13, j1)), .ref (oa (11, 15 + 5 * j1 + 2))]) (rest := []) rfl rfl (Nat.le_of_ble_eq_true rfl) dX0_askAll_9 ⟨Nat.zero_le _, Nat.zero_le _⟩ (fun H locs hW => ?_)
  show W p l e (rmq 5 117) s m args below meth c H locs 0 0 Q (F0 m 12 ls [])
  refine lv_aload_n hx hb dX0_askAll_12 rfl (lv_at hl 0 rfl) ?_
  refine lv_aload_n hx hb dX0_askAll_13 rfl (lv_at hl 1 rfl) ?_
  obtain ⟨x14, h14, hf⟩ := bd_of hf
  refine r_callV (k := ((4, 0) : Ky)) C hW hl lk_X0_60 (c_X0_heardByAll hwf hj1 h14) ⟨rfl, rfl⟩ ⟨Nat.le_of_ble_eq_true rfl, Nat.le_of_ble_eq_true rfl⟩ rfl rfl rfl (As := [.ref (oa (13, j1))]) (rest := []) rfl rfl (Nat.le_of_ble_eq_true rfl) dX0_askAll_14 ⟨Nat.zero_le _, Nat.zero_le _⟩ (fun H locs hW => ?_)
  show W p l e (rmq 5 117) s m args below meth c H locs 0 0 Q (F0 m 17 ls [.int x14.1])
  refine lv_istore_n (lv' := [(2, .int x14.1), (0, .ref (oa (4, 0))), (1, .ref (oa (13, j1)))]) hx hb dX0_askAll_17 rfl hl (by decide) rfl (fun ls hl => ?_)
  refine lv_aload_n hx hb dX0_askAll_18 rfl (lv_at hl 2 rfl) ?_
  refine lv_dup hx hb dX0_askAll_19 rfl ?_
  refine gf_X0_68 C hW hj1 dX0_askAll_20 ?_
  refine lv_iconst (v := 1) hx hb dX0_askAll_23 (by decide) ?_
  refine lv_iadd hx hb dX0_askAll_24 ?_
  refine pf_X0_68 C hW hj1 dX0_askAll_25 (fun H locs hW => ?_)
  refine lv_aload_n hx hb dX0_askAll_28 rfl (lv_at hl 2 rfl) ?_
  refine lv_iconst (v := 4) hx hb dX0_askAll_29 (by decide) ?_
  refine lv_iconst (v := -1) hx hb dX0_askAll_30 (by decide) ?_
  refine lv_iconst (v := -1) hx hb dX0_askAll_31 (by decide) ?_
  refine lv_iload_n hx hb dX0_askAll_32 rfl (lv_at hl 0 rfl) ?_
  refine lv_aload_n hx hb dX0_askAll_33 rfl (lv_at hl 1 rfl) ?_
  refine gf_X0_9 C hW dX0_askAll_34 ?_
  refine lv_aload_n hx hb dX0_askAll_37 rfl (lv_at hl 2 rfl) ?_
  refine lv_aload_n hx hb dX0_askAll_38 rfl (lv_at hl 2 rfl) ?_
  refine gf_X0_38 C hW hj1 dX0_askAll_39 ?_
  obtain ⟨x42, h42, hf⟩ := bd_of hf
  refine r_callV (k := ((3, 0) : Ky)) C hW hl lk_X0_42 (c_X4_sureBits hwf hj1 (cex_st hj1 (by decide)) h42) ⟨rfl, rfl⟩ ⟨Nat.le_of_ble_eq_true rfl, Nat.le_of_ble_eq_true rfl⟩ rfl rfl rfl (As := [.ref (oa (13, j1)), .ref (oa (11, 15 + 5 * j1 + 2))]) (rest := [.int x14.1, .int (-1 : Int32), .int (-1 : Int32), .int (4 : Int32), .ref (oa (13, j1))]) rfl rfl (Nat.le_of_ble_eq_true rfl) dX0_askAll_42 ⟨Nat.zero_le _, Nat.zero_le _⟩ (fun H locs hW => ?_)
  show W p l e (rmq 5 117) s m args below meth c H locs 0 0 Q (F0 m 45 ls [.int x42, .int x14.1, .int (-1 : Int32), .int (-1 : Int32), .int (4 : Int32), .ref (oa (13, j1))])
  obtain ⟨x45, h45, hf⟩ := bd_of hf
  refine r_callV (k := ((13, j1) : Ky)) C hW hl lk_X0_46 (c_X6_note hwf hj1 h45) ⟨rfl, rfl⟩ ⟨Nat.le_of_ble_eq_true rfl, Nat.le_of_ble_eq_true rfl⟩ rfl (faB_13 hj1) rfl (As := [.int (4 : Int32), .int (-1 : Int32), .int (-1 : Int32), .int x14.1, .int x42]) (rest := []) rfl rfl (Nat.le_of_ble_eq_true rfl) dX0_askAll_45 ⟨Nat.zero_le _, Nat.zero_le _⟩ (fun H locs hW => ?_)
  show W p l e (rmq 5 117) s m args below meth c H locs 0 0 Q (F0 m 48 ls [])
  refine lv_iload_n hx hb dX0_askAll_48 rfl (lv_at hl 0 rfl) ?_
  obtain rfl := Option.some.inj hf
  rw [hQ]
  exact r_iret C hr hk hW rfl rfl dX0_askAll_49
